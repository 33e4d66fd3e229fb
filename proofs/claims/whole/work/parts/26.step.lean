/-! ===== every step of the abstract machine is the machine's ===== -/
def am_Gw (ω ω' : am_W) : Prop := ω.1.length ≤ ω'.1.length ∧ am_sl ω.1 ≤ am_sl ω'.1 ∧ ω'.2.2 = ω.2.2
theorem am_Gw_rf (ω : am_W) : am_Gw ω ω := ⟨Nat.le_refl _, Nat.le_refl _, rfl⟩
theorem am_Gw_tr {ω ω' ω'' : am_W} (h : am_Gw ω ω') (h2 : am_Gw ω' ω'') : am_Gw ω ω'' := ⟨Nat.le_trans h.1 h2.1, Nat.le_trans h.2.1 h2.2.1, h2.2.2.trans h.2.2⟩
theorem am_Gw_put (ω : am_W) (a k : Nat) (v : Int) : am_Gw ω (am_put ω a k v) := ⟨Nat.le_refl _, Nat.le_refl _, rfl⟩
theorem am_Gw_cpy (ω : am_W) (a b c d n : Nat) : am_Gw ω (am_cpy ω a b c d n) := ⟨Nat.le_refl _, Nat.le_refl _, rfl⟩
theorem am_Gw_new (ω : am_W) (q : Nat × Nat) (d : Nat → Int) : am_Gw ω (am_new ω q d) := ⟨by show _ ≤ (ω.1 ++ [q]).length; simp, by show _ ≤ am_sl (ω.1 ++ [q]); rw [am_sl_app]; omega, rfl⟩
theorem am_Gw_newg (ω : am_W) (n k : Nat) : am_Gw ω (am_newg ω n k) := ⟨by show _ ≤ (ω.1 ++ _).length; simp, by show _ ≤ am_sl (ω.1 ++ _); rw [am_sl_app]; omega, rfl⟩
theorem am_new_len (ω : am_W) (q : Nat × Nat) (d : Nat → Int) : (am_new ω q d).1.length = ω.1.length + 1 ∧ am_sl (am_new ω q d).1 = am_sl ω.1 + q.2 := ⟨by show (ω.1 ++ [q]).length = _; simp, by show am_sl (ω.1 ++ [q]) = _; rw [am_sl_app]; simp [am_sl]⟩
theorem am_newg_len (ω : am_W) (n k : Nat) : (am_newg ω n k).1.length = ω.1.length + (1 + n) ∧ am_sl (am_newg ω n k).1 = am_sl ω.1 + (n + n * k) := ⟨by show (ω.1 ++ ((104, n) :: List.replicate n (100, k))).length = _; simp; omega, by show am_sl (ω.1 ++ ((104, n) :: List.replicate n (100, k))) = _; rw [am_sl_app]; simp [am_sl]⟩
theorem cd_of {α : Type} {b : Bool} {x : Option α} {y : α} (h : cond b x none = some y) : b = true ∧ x = some y := by
  cases b
  · cases h
  · exact ⟨rfl, h⟩
theorem cd_ofn {α : Type} {b : Bool} {x : Option α} {y : α} (h : cond b none x = some y) : b = false ∧ x = some y := by
  cases b
  · exact ⟨rfl, h⟩
  · cases h
theorem am_dec {b pc len : Nat} {i : Instr} (hb : b ≤ 240) (h : am_code b pc = some (i, len)) : decode (am_by.get b) pc = .ok (i, len) ∧ am_ln i len = true := by
  unfold am_code at h
  cases h1 : am_look (am_mt.get b).2.2.2.2 pc with
  | none => rw [h1] at h; cases h
  | some q =>
    obtain ⟨i2, len2⟩ := q
    rw [h1] at h
    obtain ⟨h2, h3⟩ := cd_of h
    cases h3
    refine ⟨?_, h2⟩
    have h4 := am_all_get (am_allb_all (am_chk_all b hb)) pc
    exact of_decide_eq_true (am_look_of (P := fun q => decide (decode (am_by.get b) q.1 = .ok q.2) = true) (am_allb_all (am_chk_all b hb)) h1)
section AS
variable {G : am_G} {mm : am_M} {A : Nat → Prop} {p : Program} {l : Launch} {e : Env} {R : Room} {s : State} {m : MethodId} {args : Array Value} {below : List Frame} {meth : Method} {c : Code} {Q : State → Prop} {c0 s0 : Nat} {sc : Nat × (Nat → Int)} {AD0 : List Nat} {pc : Nat} {L : am_L} {S : List am_V} {ω : am_W}
theorem am_ldi_of {k pc2 : Nat} {a : am_Act} (h : am_ldi L k pc2 S ω = some a) : ∃ z, L[k]? = some (some (.inl z)) ∧ a = .inl (pc2, L, .inl z :: S, ω) := by
  unfold am_ldi am_nx at h
  split at h
  · rename_i z hz; exact ⟨z, hz, (Option.some.inj h).symm⟩
  · cases h
theorem am_ldl_of {k pc2 : Nat} {a : am_Act} (h : am_ldl L k pc2 S ω = some a) : ∃ z, L[k]? = some (some (.inr (.inl z))) ∧ a = .inl (pc2, L, .inr (.inl z) :: S, ω) := by
  unfold am_ldl am_nx at h
  split at h
  · rename_i z hz; exact ⟨z, hz, (Option.some.inj h).symm⟩
  · cases h
theorem am_lda_of {k pc2 : Nat} {a : am_Act} (h : am_lda L k pc2 S ω = some a) : ∃ z, L[k]? = some (some (.inr (.inr z))) ∧ a = .inl (pc2, L, .inr (.inr z) :: S, ω) := by
  unfold am_lda am_nx at h
  split at h
  · rename_i z hz; exact ⟨z, hz, (Option.some.inj h).symm⟩
  · cases h
theorem am_st1_of {X : Option am_L} {pc2 : Nat} {T : List am_V} {a : am_Act} (h : am_st1 X pc2 T ω = some a) : ∃ L', X = some L' ∧ a = .inl (pc2, L', T, ω) := by
  unfold am_st1 am_nx at h
  split at h
  · cases h
  · exact ⟨_, rfl, (Option.some.inj h).symm⟩
theorem am_sti_of {k pc2 : Nat} {a : am_Act} (h : am_sti L k pc2 S ω = some a) : ∃ z T L', S = .inl z :: T ∧ am_sto L k (.inl z) = some L' ∧ a = .inl (pc2, L', T, ω) := by
  unfold am_sti at h
  split at h
  · obtain ⟨L', h1, h2⟩ := am_st1_of h; exact ⟨_, _, L', rfl, h1, h2⟩
  · cases h
theorem am_stj_of {k pc2 : Nat} {a : am_Act} (h : am_stj L k pc2 S ω = some a) : ∃ z T L', S = .inr (.inl z) :: T ∧ am_stl L k (.inr (.inl z)) = some L' ∧ a = .inl (pc2, L', T, ω) := by
  unfold am_stj at h
  split at h
  · obtain ⟨L', h1, h2⟩ := am_st1_of h; exact ⟨_, _, L', rfl, h1, h2⟩
  · cases h
theorem am_sta_of {k pc2 : Nat} {a : am_Act} (h : am_sta L k pc2 S ω = some a) : ∃ z T L', S = .inr (.inr z) :: T ∧ am_sto L k (.inr (.inr z)) = some L' ∧ a = .inl (pc2, L', T, ω) := by
  unfold am_sta at h
  split at h
  · obtain ⟨L', h1, h2⟩ := am_st1_of h; exact ⟨_, _, L', rfl, h1, h2⟩
  · cases h
theorem am_b2_of {f : Int → Int → Int} {pc2 : Nat} {a : am_Act} (h : am_b2 f pc2 L S ω = some a) : ∃ x y T, S = .inl y :: .inl x :: T ∧ a = .inl (pc2, L, .inl (f x y) :: T, ω) := by
  unfold am_b2 am_nx at h
  split at h
  · exact ⟨_, _, _, rfl, (Option.some.inj h).symm⟩
  · cases h
theorem am_j2_of {f : Int → Int → Int} {pc2 : Nat} {a : am_Act} (h : am_j2 f pc2 L S ω = some a) : ∃ x y T, S = .inr (.inl y) :: .inr (.inl x) :: T ∧ a = .inl (pc2, L, .inr (.inl (f x y)) :: T, ω) := by
  unfold am_j2 am_nx at h
  split at h
  · exact ⟨_, _, _, rfl, (Option.some.inj h).symm⟩
  · cases h
theorem am_jp_of {t : Int} {a : am_Act} (h : am_jp t L S ω = some a) : t = ((t.toNat : Nat) : Int) ∧ a = .inl (t.toNat, L, S, ω) := by
  unfold am_jp at h
  obtain ⟨h1, h2⟩ := cd_of h
  have h1 := of_decide_eq_true h1
  exact ⟨by omega, (Option.some.inj h2).symm⟩
theorem am_br_of {cb : Bool} {t : Int} {pc2 : Nat} {a : am_Act} (h : am_br cb t pc2 L S ω = some a) : t = ((t.toNat : Nat) : Int) ∧ a = .inl (if cb = true then t.toNat else pc2, L, S, ω) := by
  unfold am_br at h
  obtain ⟨h1, h2⟩ := cd_of h
  have h1 := of_decide_eq_true h1
  exact ⟨by omega, (Option.some.inj h2).symm⟩

theorem am_call_no {m : am_M} {b na rk pc2 : Nat} {rc : Bool} {x : Nat × am_S} : ¬ am_call m b na rk pc2 rc L S ω = some (.inl x) := by
  intro h
  unfold am_call at h
  split at h
  · obtain ⟨-, h2⟩ := cd_of h
    cases h2
  · cases h
theorem am_step_J {i : Instr} {len pc' : Nat} {L' : am_L} {S' : List am_V} {ω' : am_W} (hmb : mm.1 ≤ 240) (hcd : am_code mm.1 pc = some (i, len)) (hs : am_st mm i pc L S ω = some (.inl (pc', L', S', ω'))) : am_Gw ω ω' ∧ (am_Cx G mm A p R s m args meth c sc → ω'.1.length ≤ c0 + R.cells → am_sl ω'.1 ≤ s0 + R.slots → am_J G mm A p l e R s m args below meth c Q c0 s0 sc AD0 pc' L' S' ω' → am_J G mm A p l e R s m args below meth c Q c0 s0 sc AD0 pc L S ω) := by
  obtain ⟨hd, hln⟩ := am_dec hmb hcd
  cases i
  case iconst n =>
    change Nat.beq len 1 = true at hln
    obtain rfl := Nat.eq_of_beq_eq_true hln
    change cond (decide (-128 ≤ n) && decide (n ≤ 127)) (am_nx (pc + 1) L (.inl n :: S) ω) none = _ at hs
    obtain ⟨h1, h2⟩ := cd_of hs
    simp only [Bool.and_eq_true, decide_eq_true_eq] at h1
    cases h2
    exact ⟨am_Gw_rf _, fun C bc bs k => aj_iconst C h1.1 h1.2 hd k⟩
  case bipush n =>
    change Nat.beq len 2 = true at hln
    obtain rfl := Nat.eq_of_beq_eq_true hln
    change cond (decide (-128 ≤ n) && decide (n ≤ 127)) (am_nx (pc + 2) L (.inl n :: S) ω) none = _ at hs
    obtain ⟨h1, h2⟩ := cd_of hs
    simp only [Bool.and_eq_true, decide_eq_true_eq] at h1
    cases h2
    exact ⟨am_Gw_rf _, fun C bc bs k => aj_bipush C h1.1 h1.2 hd k⟩
  case sipush n =>
    change Nat.beq len 3 = true at hln
    obtain rfl := Nat.eq_of_beq_eq_true hln
    change cond (decide (-32768 ≤ n) && decide (n ≤ 32767)) (am_nx (pc + 3) L (.inl n :: S) ω) none = _ at hs
    obtain ⟨h1, h2⟩ := cd_of hs
    simp only [Bool.and_eq_true, decide_eq_true_eq] at h1
    cases h2
    exact ⟨am_Gw_rf _, fun C bc bs k => aj_sipush C h1.1 h1.2 hd k⟩
  case lconst n =>
    change Nat.beq len 1 = true at hln
    obtain rfl := Nat.eq_of_beq_eq_true hln
    change am_nx (pc + 1) L (.inr (.inl ((n : Nat) : Int)) :: S) ω = _ at hs
    cases hs
    exact ⟨am_Gw_rf _, fun C bc bs k => aj_lconst C hd k⟩
  case iload_n k =>
    change Nat.beq len 1 = true at hln
    obtain rfl := Nat.eq_of_beq_eq_true hln
    change am_ldi L k (pc + 1) S ω = _ at hs
    obtain ⟨z, h1, h2⟩ := am_ldi_of hs
    cases h2
    exact ⟨am_Gw_rf _, fun C bc bs k => aj_iload_n C hd h1 k⟩
  case iload k =>
    change Nat.beq len 2 = true at hln
    obtain rfl := Nat.eq_of_beq_eq_true hln
    change am_ldi L k (pc + 2) S ω = _ at hs
    obtain ⟨z, h1, h2⟩ := am_ldi_of hs
    cases h2
    exact ⟨am_Gw_rf _, fun C bc bs k => aj_iload C hd h1 k⟩
  case lload_n k =>
    change Nat.beq len 1 = true at hln
    obtain rfl := Nat.eq_of_beq_eq_true hln
    change am_ldl L k (pc + 1) S ω = _ at hs
    obtain ⟨z, h1, h2⟩ := am_ldl_of hs
    cases h2
    exact ⟨am_Gw_rf _, fun C bc bs k => aj_lload_n C hd h1 k⟩
  case lload k =>
    change Nat.beq len 2 = true at hln
    obtain rfl := Nat.eq_of_beq_eq_true hln
    change am_ldl L k (pc + 2) S ω = _ at hs
    obtain ⟨z, h1, h2⟩ := am_ldl_of hs
    cases h2
    exact ⟨am_Gw_rf _, fun C bc bs k => aj_lload C hd h1 k⟩
  case aload_n k =>
    change Nat.beq len 1 = true at hln
    obtain rfl := Nat.eq_of_beq_eq_true hln
    change am_lda L k (pc + 1) S ω = _ at hs
    obtain ⟨z, h1, h2⟩ := am_lda_of hs
    cases h2
    exact ⟨am_Gw_rf _, fun C bc bs k => aj_aload_n C hd h1 k⟩
  case aload k =>
    change Nat.beq len 2 = true at hln
    obtain rfl := Nat.eq_of_beq_eq_true hln
    change am_lda L k (pc + 2) S ω = _ at hs
    obtain ⟨z, h1, h2⟩ := am_lda_of hs
    cases h2
    exact ⟨am_Gw_rf _, fun C bc bs k => aj_aload C hd h1 k⟩
  case istore_n k =>
    change Nat.beq len 1 = true at hln
    obtain rfl := Nat.eq_of_beq_eq_true hln
    change am_sti L k (pc + 1) S ω = _ at hs
    obtain ⟨z, T, L2, rfl, h1, h2⟩ := am_sti_of hs
    cases h2
    exact ⟨am_Gw_rf _, fun C bc bs k => aj_istore_n C hd h1 k⟩
  case istore k =>
    change Nat.beq len 2 = true at hln
    obtain rfl := Nat.eq_of_beq_eq_true hln
    change am_sti L k (pc + 2) S ω = _ at hs
    obtain ⟨z, T, L2, rfl, h1, h2⟩ := am_sti_of hs
    cases h2
    exact ⟨am_Gw_rf _, fun C bc bs k => aj_istore C hd h1 k⟩
  case lstore_n k =>
    change Nat.beq len 1 = true at hln
    obtain rfl := Nat.eq_of_beq_eq_true hln
    change am_stj L k (pc + 1) S ω = _ at hs
    obtain ⟨z, T, L2, rfl, h1, h2⟩ := am_stj_of hs
    cases h2
    exact ⟨am_Gw_rf _, fun C bc bs k => aj_lstore_n C hd h1 k⟩
  case lstore k =>
    change Nat.beq len 2 = true at hln
    obtain rfl := Nat.eq_of_beq_eq_true hln
    change am_stj L k (pc + 2) S ω = _ at hs
    obtain ⟨z, T, L2, rfl, h1, h2⟩ := am_stj_of hs
    cases h2
    exact ⟨am_Gw_rf _, fun C bc bs k => aj_lstore C hd h1 k⟩
  case astore_n k =>
    change Nat.beq len 1 = true at hln
    obtain rfl := Nat.eq_of_beq_eq_true hln
    change am_sta L k (pc + 1) S ω = _ at hs
    obtain ⟨z, T, L2, rfl, h1, h2⟩ := am_sta_of hs
    cases h2
    exact ⟨am_Gw_rf _, fun C bc bs k => aj_astore_n C hd h1 k⟩
  case astore k =>
    change Nat.beq len 2 = true at hln
    obtain rfl := Nat.eq_of_beq_eq_true hln
    change am_sta L k (pc + 2) S ω = _ at hs
    obtain ⟨z, T, L2, rfl, h1, h2⟩ := am_sta_of hs
    cases h2
    exact ⟨am_Gw_rf _, fun C bc bs k => aj_astore C hd h1 k⟩
  case iinc k n =>
    change Nat.beq len 3 = true at hln
    obtain rfl := Nat.eq_of_beq_eq_true hln
    change (match L[k]? with
      | some (some (.inl z)) => am_st1 (am_sto L k (.inl (am_w (z + n)))) (pc + 3) S ω
      | _ => none) = _ at hs
    split at hs
    · rename_i z hz
      obtain ⟨L2, h1, h2⟩ := am_st1_of hs
      cases h2
      exact ⟨am_Gw_rf _, fun C bc bs k => aj_iinc C hd hz h1 k⟩
    · cases hs
  case iadd =>
    change Nat.beq len 1 = true at hln
    obtain rfl := Nat.eq_of_beq_eq_true hln
    change am_b2 (fun a b => am_w (a + b)) (pc + 1) L S ω = _ at hs
    obtain ⟨x, y, T, rfl, h2⟩ := am_b2_of hs
    cases h2
    exact ⟨am_Gw_rf _, fun C bc bs k => aj_iadd C hd k⟩
  case isub =>
    change Nat.beq len 1 = true at hln
    obtain rfl := Nat.eq_of_beq_eq_true hln
    change am_b2 (fun a b => am_w (a - b)) (pc + 1) L S ω = _ at hs
    obtain ⟨x, y, T, rfl, h2⟩ := am_b2_of hs
    cases h2
    exact ⟨am_Gw_rf _, fun C bc bs k => aj_isub C hd k⟩
  case imul =>
    change Nat.beq len 1 = true at hln
    obtain rfl := Nat.eq_of_beq_eq_true hln
    change am_b2 (fun a b => am_w (a * b)) (pc + 1) L S ω = _ at hs
    obtain ⟨x, y, T, rfl, h2⟩ := am_b2_of hs
    cases h2
    exact ⟨am_Gw_rf _, fun C bc bs k => aj_imul C hd k⟩
  case iand =>
    change Nat.beq len 1 = true at hln
    obtain rfl := Nat.eq_of_beq_eq_true hln
    change am_b2 am_and (pc + 1) L S ω = _ at hs
    obtain ⟨x, y, T, rfl, h2⟩ := am_b2_of hs
    cases h2
    exact ⟨am_Gw_rf _, fun C bc bs k => aj_iand C hd k⟩
  case ior =>
    change Nat.beq len 1 = true at hln
    obtain rfl := Nat.eq_of_beq_eq_true hln
    change am_b2 am_or (pc + 1) L S ω = _ at hs
    obtain ⟨x, y, T, rfl, h2⟩ := am_b2_of hs
    cases h2
    exact ⟨am_Gw_rf _, fun C bc bs k => aj_ior C hd k⟩
  case ixor =>
    change Nat.beq len 1 = true at hln
    obtain rfl := Nat.eq_of_beq_eq_true hln
    change am_b2 am_xor (pc + 1) L S ω = _ at hs
    obtain ⟨x, y, T, rfl, h2⟩ := am_b2_of hs
    cases h2
    exact ⟨am_Gw_rf _, fun C bc bs k => aj_ixor C hd k⟩
  case ishl =>
    change Nat.beq len 1 = true at hln
    obtain rfl := Nat.eq_of_beq_eq_true hln
    change am_b2 am_shl (pc + 1) L S ω = _ at hs
    obtain ⟨x, y, T, rfl, h2⟩ := am_b2_of hs
    cases h2
    exact ⟨am_Gw_rf _, fun C bc bs k => aj_ishl C hd k⟩
  case ishr =>
    change Nat.beq len 1 = true at hln
    obtain rfl := Nat.eq_of_beq_eq_true hln
    change am_b2 am_shr (pc + 1) L S ω = _ at hs
    obtain ⟨x, y, T, rfl, h2⟩ := am_b2_of hs
    cases h2
    exact ⟨am_Gw_rf _, fun C bc bs k => aj_ishr C hd k⟩
  case iushr =>
    change Nat.beq len 1 = true at hln
    obtain rfl := Nat.eq_of_beq_eq_true hln
    change am_b2 am_ushr (pc + 1) L S ω = _ at hs
    obtain ⟨x, y, T, rfl, h2⟩ := am_b2_of hs
    cases h2
    exact ⟨am_Gw_rf _, fun C bc bs k => aj_iushr C hd k⟩
  case idiv =>
    change Nat.beq len 1 = true at hln
    obtain rfl := Nat.eq_of_beq_eq_true hln
    change (match S with
      | .inl b :: .inl a :: S => cond (decide (b = 0)) none (am_nx (pc + 1) L (.inl (am_w (a.tdiv b)) :: S) ω)
      | _ => none) = _ at hs
    split at hs
    · obtain ⟨h1, h2⟩ := cd_ofn hs
      cases h2
      exact ⟨am_Gw_rf _, fun C bc bs k => aj_idiv C (of_decide_eq_false h1) hd k⟩
    · cases hs
  case irem =>
    change Nat.beq len 1 = true at hln
    obtain rfl := Nat.eq_of_beq_eq_true hln
    change (match S with
      | .inl b :: .inl a :: S => cond (decide (b = 0)) none (am_nx (pc + 1) L (.inl (a.tmod b) :: S) ω)
      | _ => none) = _ at hs
    split at hs
    · obtain ⟨h1, h2⟩ := cd_ofn hs
      cases h2
      exact ⟨am_Gw_rf _, fun C bc bs k => aj_irem C (of_decide_eq_false h1) hd k⟩
    · cases hs
  case ldiv =>
    change Nat.beq len 1 = true at hln
    obtain rfl := Nat.eq_of_beq_eq_true hln
    change (match S with
      | .inr (.inl b) :: .inr (.inl a) :: S => cond (decide (b = 0)) none (am_nx (pc + 1) L (.inr (.inl (am_wl (a.tdiv b))) :: S) ω)
      | _ => none) = _ at hs
    split at hs
    · obtain ⟨h1, h2⟩ := cd_ofn hs
      cases h2
      exact ⟨am_Gw_rf _, fun C bc bs k => aj_ldiv C (of_decide_eq_false h1) hd k⟩
    · cases hs
  case lrem =>
    change Nat.beq len 1 = true at hln
    obtain rfl := Nat.eq_of_beq_eq_true hln
    change (match S with
      | .inr (.inl b) :: .inr (.inl a) :: S => cond (decide (b = 0)) none (am_nx (pc + 1) L (.inr (.inl (a.tmod b)) :: S) ω)
      | _ => none) = _ at hs
    split at hs
    · obtain ⟨h1, h2⟩ := cd_ofn hs
      cases h2
      exact ⟨am_Gw_rf _, fun C bc bs k => aj_lrem C (of_decide_eq_false h1) hd k⟩
    · cases hs
  case ineg =>
    change Nat.beq len 1 = true at hln
    obtain rfl := Nat.eq_of_beq_eq_true hln
    change (match S with
      | .inl a :: S => am_nx (pc + 1) L (.inl (am_w (-a)) :: S) ω
      | _ => none) = _ at hs
    split at hs
    · cases hs
      exact ⟨am_Gw_rf _, fun C bc bs k => aj_ineg C hd k⟩
    · cases hs
  case lshl =>
    change Nat.beq len 1 = true at hln
    obtain rfl := Nat.eq_of_beq_eq_true hln
    change (match S with
      | .inl b :: .inr (.inl a) :: S => am_nx (pc + 1) L (.inr (.inl (am_lshl a b)) :: S) ω
      | _ => none) = _ at hs
    split at hs
    · cases hs
      exact ⟨am_Gw_rf _, fun C bc bs k => aj_lshl C hd k⟩
    · cases hs
  case lcmp =>
    change Nat.beq len 1 = true at hln
    obtain rfl := Nat.eq_of_beq_eq_true hln
    change (match S with
      | .inr (.inl b) :: .inr (.inl a) :: S => am_nx (pc + 1) L (.inl (am_cmp a b) :: S) ω
      | _ => none) = _ at hs
    split at hs
    · cases hs
      exact ⟨am_Gw_rf _, fun C bc bs k => aj_lcmp C hd k⟩
    · cases hs
  case i2l =>
    change Nat.beq len 1 = true at hln
    obtain rfl := Nat.eq_of_beq_eq_true hln
    change (match S with
      | .inl a :: S => am_nx (pc + 1) L (.inr (.inl a) :: S) ω
      | _ => none) = _ at hs
    split at hs
    · cases hs
      exact ⟨am_Gw_rf _, fun C bc bs k => aj_i2l C hd k⟩
    · cases hs
  case l2i =>
    change Nat.beq len 1 = true at hln
    obtain rfl := Nat.eq_of_beq_eq_true hln
    change (match S with
      | .inr (.inl a) :: S => am_nx (pc + 1) L (.inl (am_w a) :: S) ω
      | _ => none) = _ at hs
    split at hs
    · cases hs
      exact ⟨am_Gw_rf _, fun C bc bs k => aj_l2i C hd k⟩
    · cases hs
  case i2b =>
    change Nat.beq len 1 = true at hln
    obtain rfl := Nat.eq_of_beq_eq_true hln
    change (match S with
      | .inl a :: S => am_nx (pc + 1) L (.inl (a.bmod 256) :: S) ω
      | _ => none) = _ at hs
    split at hs
    · cases hs
      exact ⟨am_Gw_rf _, fun C bc bs k => aj_i2b C hd k⟩
    · cases hs
  case i2s =>
    change Nat.beq len 1 = true at hln
    obtain rfl := Nat.eq_of_beq_eq_true hln
    change (match S with
      | .inl a :: S => am_nx (pc + 1) L (.inl (a.bmod 65536) :: S) ω
      | _ => none) = _ at hs
    split at hs
    · cases hs
      exact ⟨am_Gw_rf _, fun C bc bs k => aj_i2s C hd k⟩
    · cases hs
  case dup_x1 =>
    change Nat.beq len 1 = true at hln
    obtain rfl := Nat.eq_of_beq_eq_true hln
    change (match S with
      | .inl z :: .inr (.inr r) :: S => am_nx (pc + 1) L (.inl z :: .inr (.inr r) :: .inl z :: S) ω
      | _ => none) = _ at hs
    split at hs
    · cases hs
      exact ⟨am_Gw_rf _, fun C bc bs k => aj_dup_x1 C hd k⟩
    · cases hs
  case dup2 =>
    change Nat.beq len 1 = true at hln
    obtain rfl := Nat.eq_of_beq_eq_true hln
    change (match S with
      | .inl z :: .inr (.inr r) :: S => am_nx (pc + 1) L (.inl z :: .inr (.inr r) :: .inl z :: .inr (.inr r) :: S) ω
      | _ => none) = _ at hs
    split at hs
    · cases hs
      exact ⟨am_Gw_rf _, fun C bc bs k => aj_dup2 C hd k⟩
    · cases hs
  case ladd =>
    change Nat.beq len 1 = true at hln
    obtain rfl := Nat.eq_of_beq_eq_true hln
    change am_j2 (fun a b => am_wl (a + b)) (pc + 1) L S ω = _ at hs
    obtain ⟨x, y, T, rfl, h2⟩ := am_j2_of hs
    cases h2
    exact ⟨am_Gw_rf _, fun C bc bs k => aj_ladd C hd k⟩
  case lmul =>
    change Nat.beq len 1 = true at hln
    obtain rfl := Nat.eq_of_beq_eq_true hln
    change am_j2 (fun a b => am_wl (a * b)) (pc + 1) L S ω = _ at hs
    obtain ⟨x, y, T, rfl, h2⟩ := am_j2_of hs
    cases h2
    exact ⟨am_Gw_rf _, fun C bc bs k => aj_lmul C hd k⟩
  case land =>
    change Nat.beq len 1 = true at hln
    obtain rfl := Nat.eq_of_beq_eq_true hln
    change am_j2 am_land (pc + 1) L S ω = _ at hs
    obtain ⟨x, y, T, rfl, h2⟩ := am_j2_of hs
    cases h2
    exact ⟨am_Gw_rf _, fun C bc bs k => aj_land C hd k⟩
  case lor =>
    change Nat.beq len 1 = true at hln
    obtain rfl := Nat.eq_of_beq_eq_true hln
    change am_j2 am_lor (pc + 1) L S ω = _ at hs
    obtain ⟨x, y, T, rfl, h2⟩ := am_j2_of hs
    cases h2
    exact ⟨am_Gw_rf _, fun C bc bs k => aj_lor C hd k⟩
  case ldc idx =>
    change Nat.beq len 2 = true at hln
    obtain rfl := Nat.eq_of_beq_eq_true hln
    change (match am_lk (am_pc.get (am_own mm.1)) idx, am_lk (am_ps.get (am_own mm.1)) idx with
      | some (z, _), _ => am_nx (pc + 2) L (.inl z :: S) ω
      | none, some (k, _) => am_nx (pc + 2) L (.inr (.inr (-3 - (k : Int))) :: S) ω
      | none, none => none) = _ at hs
    split at hs
    · rename_i z w hz
      cases hs
      exact ⟨am_Gw_rf _, fun C bc bs k => aj_ldc C hd (by assumption) k⟩
    · rename_i k2 w hz
      cases hs
      exact ⟨am_Gw_rf _, fun C bc bs k => aj_ldcS C hd (by assumption) k⟩
    · cases hs
  case ldc_w idx =>
    change Nat.beq len 3 = true at hln
    obtain rfl := Nat.eq_of_beq_eq_true hln
    change (match am_lk (am_pc.get (am_own mm.1)) idx with
      | some (z, _) => am_nx (pc + 3) L (.inl z :: S) ω
      | none => none) = _ at hs
    split at hs
    · cases hs
      exact ⟨am_Gw_rf _, fun C bc bs k => aj_ldcw C hd (by assumption) k⟩
    · cases hs
  case ldc2_w idx =>
    change Nat.beq len 3 = true at hln
    obtain rfl := Nat.eq_of_beq_eq_true hln
    change (match am_lk (am_pl.get (am_own mm.1)) idx with
      | some (z, _) => am_nx (pc + 3) L (.inr (.inl z) :: S) ω
      | none => none) = _ at hs
    split at hs
    · cases hs
      exact ⟨am_Gw_rf _, fun C bc bs k => aj_ldc2 C hd (by assumption) k⟩
    · cases hs
  case dup =>
    change Nat.beq len 1 = true at hln
    obtain rfl := Nat.eq_of_beq_eq_true hln
    change (match S with
      | .inl z :: S => am_nx (pc + 1) L (.inl z :: .inl z :: S) ω
      | .inr (.inr z) :: S => am_nx (pc + 1) L (.inr (.inr z) :: .inr (.inr z) :: S) ω
      | _ => none) = _ at hs
    split at hs
    · cases hs
      exact ⟨am_Gw_rf _, fun C bc bs k => aj_dupi C hd k⟩
    · cases hs
      exact ⟨am_Gw_rf _, fun C bc bs k => aj_dupr C hd k⟩
    · cases hs
  case pop =>
    change Nat.beq len 1 = true at hln
    obtain rfl := Nat.eq_of_beq_eq_true hln
    change (match S with
      | .inl _ :: S => am_nx (pc + 1) L S ω
      | .inr (.inr _) :: S => am_nx (pc + 1) L S ω
      | _ => none) = _ at hs
    split at hs
    · cases hs
      exact ⟨am_Gw_rf _, fun C bc bs k => aj_popi C hd k⟩
    · cases hs
      exact ⟨am_Gw_rf _, fun C bc bs k => aj_popr C hd k⟩
    · cases hs
  case goto off =>
    change Nat.beq len 3 = true at hln
    obtain rfl := Nat.eq_of_beq_eq_true hln
    change am_jp ((pc : Int) + off) L S ω = _ at hs
    obtain ⟨h1, h2⟩ := am_jp_of hs
    cases h2
    exact ⟨am_Gw_rf _, fun C bc bs k => aj_goto C hd h1 k⟩
  case ifCond c off =>
    change Nat.beq len 3 = true at hln
    obtain rfl := Nat.eq_of_beq_eq_true hln
    change (match S with
      | .inl a :: S => am_br (am_cc c a 0) ((pc : Int) + off) (pc + 3) L S ω
      | _ => none) = _ at hs
    split at hs
    · obtain ⟨h1, h2⟩ := am_br_of hs
      cases h2
      exact ⟨am_Gw_rf _, fun C bc bs k => aj_if C hd h1 k⟩
    · cases hs
  case if_icmp c off =>
    change Nat.beq len 3 = true at hln
    obtain rfl := Nat.eq_of_beq_eq_true hln
    change (match S with
      | .inl b :: .inl a :: S => am_br (am_cc c a b) ((pc : Int) + off) (pc + 3) L S ω
      | _ => none) = _ at hs
    split at hs
    · obtain ⟨h1, h2⟩ := am_br_of hs
      cases h2
      exact ⟨am_Gw_rf _, fun C bc bs k => aj_icmp C hd h1 k⟩
    · cases hs
  case ifnonnull off =>
    change Nat.beq len 3 = true at hln
    obtain rfl := Nat.eq_of_beq_eq_true hln
    change (match S with
      | .inr (.inr r) :: S => am_br (decide (¬ r = -1)) ((pc : Int) + off) (pc + 3) L S ω
      | _ => none) = _ at hs
    split at hs
    · obtain ⟨h1, h2⟩ := am_br_of hs
      cases h2
      exact ⟨am_Gw_rf _, fun C bc bs k => aj_ifnonnull C hd h1 k⟩
    · cases hs
  case tableswitch dflt lo hi offs =>
    change (match S with
      | .inl z :: S => (match am_tsw dflt lo hi offs z with
      | some off => am_jp ((pc : Int) + off) L S ω
      | none => none)
      | _ => none) = _ at hs
    split at hs
    · split at hs
      · rename_i off ho
        obtain ⟨h1, h2⟩ := am_jp_of hs
        cases h2
        exact ⟨am_Gw_rf _, fun C bc bs k => aj_tableswitch C hd ho h1 k⟩
      · cases hs
    · cases hs
  case getfield idx =>
    change Nat.beq len 3 = true at hln
    obtain rfl := Nat.eq_of_beq_eq_true hln
    change am_getf (am_own mm.1) idx (pc + 3) L S ω = _ at hs
    unfold am_getf at hs
    split at hs
    · obtain ⟨h1, h2⟩ := cd_of hs
      cases h2
      exact ⟨am_Gw_rf _, fun C bc bs k => aj_getfield C hd (by assumption) h1 k⟩
    · cases hs
  case putfield idx =>
    change Nat.beq len 3 = true at hln
    obtain rfl := Nat.eq_of_beq_eq_true hln
    change am_putf (am_own mm.1) mm.1 idx (pc + 3) L S ω = _ at hs
    unfold am_putf at hs
    split at hs
    · obtain ⟨h1, h2⟩ := cd_of hs
      cases h2
      rw [Bool.and_eq_true, Bool.and_eq_true] at h1
      refine ⟨am_Gw_put _ _ _ _, fun C _ _ k => aj_putfieldi C hd (by assumption) h1.1 h1.2.1 ?_ k⟩
      have h3 := h1.2.2
      split at h3
      · rename_i h4; exact Or.inl h4
      · rename_i h4; exact Or.inr ⟨h4, by simpa using h3⟩
      · cases h3
    · obtain ⟨h1, h2⟩ := cd_of hs
      cases h2
      rw [Bool.and_eq_true, Bool.and_eq_true, Bool.and_eq_true] at h1
      exact ⟨am_Gw_put _ _ _ _, fun C _ _ k => aj_putfieldr C hd (by assumption) h1.1 h1.2.1 (Nat.eq_of_beq_eq_true h1.2.2.1) (of_decide_eq_true h1.2.2.2) k⟩
    · cases hs
  case arraylength =>
    change Nat.beq len 1 = true at hln
    obtain rfl := Nat.eq_of_beq_eq_true hln
    change (match S with
      | .inr (.inr r) :: S => cond (Nat.beq mm.1 240 && decide (r = -2)) (am_nx (pc + 1) L (.inl (ω.2.2.1 : Int) :: S) ω) (cond (am_ar ω r 100 || am_ar ω r 101) (am_nx (pc + 1) L (.inl (am_len ω r) :: S) ω) none)
      | _ => none) = _ at hs
    split at hs
    · rename_i r T
      cases hr : (Nat.beq mm.1 240 && decide (r = -2)) with
      | true =>
        rw [hr] at hs
        rw [Bool.and_eq_true] at hr
        obtain rfl := of_decide_eq_true hr.2
        cases hs
        exact ⟨am_Gw_rf _, fun C bc bs k => aj_scrlen C hd k⟩
      | false =>
        rw [hr] at hs
        obtain ⟨h1, h2⟩ := cd_of (show cond (am_ar ω r 100 || am_ar ω r 101) (am_nx (pc + 1) L (.inl (am_len ω r) :: T) ω) none = _ from hs)
        cases h2
        rcases Bool.or_eq_true_iff.mp h1 with h | h
        · exact ⟨am_Gw_rf _, fun C _ _ k => aj_arraylength (kd := 100) (t0 := 0) (ty := .int) C hd (Or.inl rfl) rfl h k⟩
        · exact ⟨am_Gw_rf _, fun C _ _ k => aj_arraylength (kd := 101) (t0 := 1) (ty := .long) C hd (Or.inr rfl) rfl h k⟩
    · cases hs
  case iaload =>
    change Nat.beq len 1 = true at hln
    obtain rfl := Nat.eq_of_beq_eq_true hln
    change (match S with
      | .inl j :: .inr (.inr r) :: S => cond (Nat.beq mm.1 240 && decide (r = -2)) (cond (decide (0 ≤ j) && decide (j < (ω.2.2.1 : Int))) (am_nx (pc + 1) L (.inl (ω.2.2.2 j.toNat) :: S) ω) none) (cond (am_in ω r 100 j) (am_nx (pc + 1) L (.inl (am_get ω r.toNat j.toNat) :: S) ω) none)
      | _ => none) = _ at hs
    split at hs
    · rename_i j r T
      cases hr : (Nat.beq mm.1 240 && decide (r = -2)) with
      | true =>
        rw [hr] at hs
        rw [Bool.and_eq_true] at hr
        obtain rfl := of_decide_eq_true hr.2
        obtain ⟨h1, h2⟩ := cd_of (show cond (decide (0 ≤ j) && decide (j < (ω.2.2.1 : Int))) (am_nx (pc + 1) L (.inl (ω.2.2.2 j.toNat) :: T) ω) none = _ from hs)
        cases h2
        simp only [Bool.and_eq_true, decide_eq_true_eq] at h1
        exact ⟨am_Gw_rf _, fun C bc bs k => aj_scrload C hd h1.1 h1.2 k⟩
      | false =>
        rw [hr] at hs
        obtain ⟨h1, h2⟩ := cd_of (show cond (am_in ω r 100 j) (am_nx (pc + 1) L (.inl (am_get ω r.toNat j.toNat) :: T) ω) none = _ from hs)
        cases h2
        exact ⟨am_Gw_rf _, fun C bc bs k => aj_iaload C hd h1 k⟩
    · cases hs
  case laload =>
    change Nat.beq len 1 = true at hln
    obtain rfl := Nat.eq_of_beq_eq_true hln
    change (match S with
      | .inl j :: .inr (.inr r) :: S => cond (am_in ω r 101 j) (am_nx (pc + 1) L (.inr (.inl (am_get ω r.toNat j.toNat)) :: S) ω) none
      | _ => none) = _ at hs
    split at hs
    · obtain ⟨h1, h2⟩ := cd_of hs
      cases h2
      exact ⟨am_Gw_rf _, fun C bc bs k => aj_laload C hd h1 k⟩
    · cases hs
  case aaload =>
    change Nat.beq len 1 = true at hln
    obtain rfl := Nat.eq_of_beq_eq_true hln
    change (match S with
      | .inl j :: .inr (.inr r) :: S => cond (am_in ω r 102 j || (am_in ω r 103 j || am_in ω r 104 j)) (am_nx (pc + 1) L (.inr (.inr (am_get ω r.toNat j.toNat)) :: S) ω) none
      | _ => none) = _ at hs
    split at hs
    · obtain ⟨h1, h2⟩ := cd_of hs
      cases h2
      rcases Bool.or_eq_true_iff.mp h1 with h | h
      · exact ⟨am_Gw_rf _, fun C _ _ k => aj_aaload (kd := 102) (t0 := 2) (ty := .object RX4) C hd (by decide) rfl rfl h k⟩
      rcases Bool.or_eq_true_iff.mp h with h | h
      · exact ⟨am_Gw_rf _, fun C _ _ k => aj_aaload (kd := 103) (t0 := 3) (ty := .object RX2) C hd (by decide) rfl rfl h k⟩
      · exact ⟨am_Gw_rf _, fun C _ _ k => aj_aaload (kd := 104) (t0 := 4) (ty := .array .int) C hd (by decide) rfl rfl h k⟩
    · cases hs
  case iastore =>
    change Nat.beq len 1 = true at hln
    obtain rfl := Nat.eq_of_beq_eq_true hln
    change (match S with
      | .inl z :: .inl j :: .inr (.inr r) :: S => cond (am_in ω r 100 j) (am_nx (pc + 1) L S (am_put ω r.toNat j.toNat z)) none
      | _ => none) = _ at hs
    split at hs
    · obtain ⟨h1, h2⟩ := cd_of hs
      cases h2
      exact ⟨am_Gw_put _ _ _ _, fun C _ _ k => aj_iastore C hd h1 k⟩
    · cases hs
  case lastore =>
    change Nat.beq len 1 = true at hln
    obtain rfl := Nat.eq_of_beq_eq_true hln
    change (match S with
      | .inr (.inl z) :: .inl j :: .inr (.inr r) :: S => cond (am_in ω r 101 j) (am_nx (pc + 1) L S (am_put ω r.toNat j.toNat z)) none
      | _ => none) = _ at hs
    split at hs
    · obtain ⟨h1, h2⟩ := cd_of hs
      cases h2
      exact ⟨am_Gw_put _ _ _ _, fun C _ _ k => aj_lastore C hd h1 k⟩
    · cases hs
  case aastore =>
    change Nat.beq len 1 = true at hln
    obtain rfl := Nat.eq_of_beq_eq_true hln
    change (match S with
      | .inr (.inr z) :: .inl j :: .inr (.inr r) :: S => cond ((am_in ω r 102 j && am_is ω z (4, 5)) || (am_in ω r 103 j && am_is ω z (2, 3))) (am_nx (pc + 1) L S (am_put ω r.toNat j.toNat z)) none
      | _ => none) = _ at hs
    split at hs
    · obtain ⟨h1, h2⟩ := cd_of hs
      cases h2
      rcases Bool.or_eq_true_iff.mp h1 with h | h
      · rw [Bool.and_eq_true] at h
        exact ⟨am_Gw_put _ _ _ _, fun C _ _ k => aj_aastore (kd := 102) (t0 := 2) (ci := 4) C hd (by decide) (by decide) am_cls_4.1 rfl h.1 h.2 k⟩
      · rw [Bool.and_eq_true] at h
        exact ⟨am_Gw_put _ _ _ _, fun C _ _ k => aj_aastore (kd := 103) (t0 := 3) (ci := 2) C hd (by decide) (by decide) am_cls_2.1 rfl h.1 h.2 k⟩
    · cases hs
  case new idx =>
    change Nat.beq len 3 = true at hln
    obtain rfl := Nat.eq_of_beq_eq_true hln
    change (match am_lk (am_pn.get (am_own mm.1)) idx with
      | some (ci, _) => cond (decide (ci < 8)) (am_nx (pc + 3) L (.inr (.inr (ω.1.length : Int)) :: S) (am_new ω (ci, am_nf ci) (am_d0 ci))) none
      | none => none) = _ at hs
    split at hs
    · obtain ⟨h1, h2⟩ := cd_of hs
      cases h2
      refine ⟨am_Gw_new _ _ _, fun C b1 b2 k => aj_new C hd (by assumption) (of_decide_eq_true h1) ?_ k⟩
      rw [(am_new_len _ _ _).1] at b1
      rw [(am_new_len _ _ _).2] at b2
      exact ⟨b1, b2⟩
    · cases hs
  case newarray ty =>
    change Nat.beq len 2 = true at hln
    obtain rfl := Nat.eq_of_beq_eq_true hln
    change (match S with
      | .inl n :: S => cond (decide (0 ≤ n) && decide (n ≤ 100000)) (match ty with
      | .int => am_nx (pc + 2) L (.inr (.inr (ω.1.length : Int)) :: S) (am_new ω (100, n.toNat) (fun _ => 0))
      | .long => am_nx (pc + 2) L (.inr (.inr (ω.1.length : Int)) :: S) (am_new ω (101, n.toNat) (fun _ => 0))
      | _ => none) none
      | _ => none) = _ at hs
    split at hs
    · obtain ⟨h1, h2⟩ := cd_of hs
      simp only [Bool.and_eq_true, decide_eq_true_eq] at h1
      split at h2
      · cases h2
        refine ⟨am_Gw_new _ _ _, fun C b1 b2 k => aj_newarrayI C hd h1.1 h1.2 ?_ k⟩
        rw [(am_new_len _ _ _).1] at b1
        rw [(am_new_len _ _ _).2] at b2
        exact ⟨b1, b2⟩
      · cases h2
        refine ⟨am_Gw_new _ _ _, fun C b1 b2 k => aj_newarrayL C hd h1.1 h1.2 ?_ k⟩
        rw [(am_new_len _ _ _).1] at b1
        rw [(am_new_len _ _ _).2] at b2
        exact ⟨b1, b2⟩
      · cases h2
    · cases hs
  case anewarray idx =>
    change Nat.beq len 3 = true at hln
    obtain rfl := Nat.eq_of_beq_eq_true hln
    change (match am_lk (am_pn.get (am_own mm.1)) idx, S with
      | some (ci, _), .inl n :: S => cond (decide (0 ≤ n) && decide (n ≤ 100000)) (match ci with
      | 4 => am_nx (pc + 3) L (.inr (.inr (ω.1.length : Int)) :: S) (am_new ω (102, n.toNat) (fun _ => -1))
      | 2 => am_nx (pc + 3) L (.inr (.inr (ω.1.length : Int)) :: S) (am_new ω (103, n.toNat) (fun _ => -1))
      | _ => none) none
      | _, _ => none) = _ at hs
    split at hs
    · obtain ⟨h1, h2⟩ := cd_of hs
      simp only [Bool.and_eq_true, decide_eq_true_eq] at h1
      split at h2
      · cases h2
        refine ⟨am_Gw_new _ _ _, fun C b1 b2 k => aj_anewarrayV C hd (by assumption) h1.1 h1.2 ?_ k⟩
        rw [(am_new_len _ _ _).1] at b1
        rw [(am_new_len _ _ _).2] at b2
        exact ⟨b1, b2⟩
      · cases h2
        refine ⟨am_Gw_new _ _ _, fun C b1 b2 k => aj_anewarrayS C hd (by assumption) h1.1 h1.2 ?_ k⟩
        rw [(am_new_len _ _ _).1] at b1
        rw [(am_new_len _ _ _).2] at b2
        exact ⟨b1, b2⟩
      · cases h2
    · cases hs
  case multianewarray idx dims =>
    change Nat.beq len 4 = true at hln
    obtain rfl := Nat.eq_of_beq_eq_true hln
    change (match am_lk (am_pn.get (am_own mm.1)) idx, S with
      | some (104, _), .inl k :: .inl n :: S => cond (Nat.beq dims 2 && (decide (0 ≤ n) && (decide (n ≤ 1000) && (decide (0 ≤ k) && decide (k ≤ 100000))))) (am_nx (pc + 4) L (.inr (.inr (ω.1.length : Int)) :: S) (am_newg ω n.toNat k.toNat)) none
      | _, _ => none) = _ at hs
    split at hs
    · obtain ⟨h1, h2⟩ := cd_of hs
      simp only [Bool.and_eq_true, decide_eq_true_eq] at h1
      obtain ⟨g0, g1, g2, g3, g4⟩ := h1
      obtain rfl := Nat.eq_of_beq_eq_true g0
      cases h2
      refine ⟨am_Gw_newg _ _ _, fun C b1 b2 k => aj_multianewarray C hd (by assumption) g1 g2 g3 g4 ?_ k⟩
      rw [(am_newg_len _ _ _).1] at b1
      rw [(am_newg_len _ _ _).2] at b2
      exact ⟨b1, b2⟩
    · cases hs
  case invokevirtual idx =>
    change Nat.beq len 3 = true at hln
    obtain rfl := Nat.eq_of_beq_eq_true hln
    change am_inv 0 mm idx (pc + 3) L S ω = _ at hs
    unfold am_inv at hs
    split at hs
    · split at hs
      all_goals (first | (exfalso; omega) | (exfalso; exact am_call_no hs) | (exfalso; cases hs; done) | skip)
      · unfold am_slen at hs
        split at hs
        · obtain ⟨h1, h2⟩ := cd_of hs
          simp only [Bool.and_eq_true, decide_eq_true_eq] at h1
          cases h2
          exact ⟨am_Gw_rf _, fun C bc bs k => aj_slen C hd (by assumption) (Nat.le_of_ble_eq_true h1.1) h1.2.1 h1.2.2.1 h1.2.2.2 bc bs k⟩
        · cases hs
      · unfold am_schr at hs
        split at hs
        · obtain ⟨h1, h2⟩ := cd_of hs
          simp only [Bool.and_eq_true, decide_eq_true_eq] at h1
          cases h2
          exact ⟨am_Gw_rf _, fun C bc bs k => aj_schr C hd (by assumption) (Nat.le_of_ble_eq_true h1.1) h1.2.1 h1.2.2.1 h1.2.2.2.1 h1.2.2.2.2.1 h1.2.2.2.2.2 bc bs k⟩
        · cases hs
    · cases hs
  case invokestatic idx =>
    change Nat.beq len 3 = true at hln
    obtain rfl := Nat.eq_of_beq_eq_true hln
    change am_inv 1 mm idx (pc + 3) L S ω = _ at hs
    unfold am_inv at hs
    split at hs
    · split at hs
      all_goals (first | (exfalso; omega) | (exfalso; exact am_call_no hs) | (exfalso; cases hs; done) | skip)
      · unfold am_acpy at hs
        split at hs
        · obtain ⟨h1, h2⟩ := cd_of hs
          simp only [Bool.and_eq_true, decide_eq_true_eq, Bool.or_eq_true] at h1
          obtain ⟨g0, g1, g2, g3, g4, g5, g6, g7⟩ := h1
          cases h2
          rcases g2 with ⟨a1, a2⟩ | ⟨a1, a2⟩
          · exact ⟨am_Gw_cpy _ _ _ _ _ _, fun C _ _ k => aj_acpyI C hd (by assumption) (Nat.le_of_ble_eq_true g0) g1 a1 a2 g3 g4 g5 g6 g7 k⟩
          · exact ⟨am_Gw_cpy _ _ _ _ _ _, fun C _ _ k => aj_acpyL C hd (by assumption) (Nat.le_of_ble_eq_true g0) g1 a1 a2 g3 g4 g5 g6 g7 k⟩
        · cases hs
    · cases hs
  case invokespecial idx =>
    change Nat.beq len 3 = true at hln
    obtain rfl := Nat.eq_of_beq_eq_true hln
    change am_inv 2 mm idx (pc + 3) L S ω = _ at hs
    unfold am_inv at hs
    split at hs
    · split at hs
      all_goals (first | (exfalso; omega) | (exfalso; exact am_call_no hs) | (exfalso; cases hs; done) | skip)
      · split at hs
        · obtain ⟨h1, h2⟩ := cd_of hs
          simp only [Bool.and_eq_true, decide_eq_true_eq] at h1
          cases h2
          exact ⟨am_Gw_rf _, fun C bc bs k => aj_objInit C hd (by assumption) (Nat.le_of_ble_eq_true h1.1) h1.2.1 h1.2.2 k⟩
        · cases hs
    · cases hs
  case ireturn =>
    change Nat.beq len 1 = true at hln
    obtain rfl := Nat.eq_of_beq_eq_true hln
    change (match S with
      | [.inl z] => cond (am_nar (am_rt mm.1) z) (am_rv (some (.inl z)) ω) none
      | _ => none) = _ at hs
    split at hs
    · obtain ⟨h1, h2⟩ := cd_of hs
      cases h2
    · cases hs
  case lreturn =>
    change Nat.beq len 1 = true at hln
    obtain rfl := Nat.eq_of_beq_eq_true hln
    change (match S with
      | [.inr (.inl z)] => cond (Nat.beq (am_rt mm.1) 2) (am_rv (some (.inr (.inl z))) ω) none
      | _ => none) = _ at hs
    split at hs
    · obtain ⟨h1, h2⟩ := cd_of hs
      cases h2
    · cases hs
  case areturn =>
    change Nat.beq len 1 = true at hln
    obtain rfl := Nat.eq_of_beq_eq_true hln
    change (match S with
      | [.inr (.inr z)] => cond (Nat.beq (am_rt mm.1) 3 && am_is ω z (1, 15)) (am_rv (some (.inr (.inr z))) ω) none
      | _ => none) = _ at hs
    split at hs
    · obtain ⟨h1, h2⟩ := cd_of hs
      cases h2
    · cases hs
  case return_ =>
    change Nat.beq len 1 = true at hln
    obtain rfl := Nat.eq_of_beq_eq_true hln
    change (match S with
      | [] => cond (Nat.beq (am_rt mm.1) 0) (am_rv none ω) none
      | _ => none) = _ at hs
    split at hs
    · obtain ⟨h1, h2⟩ := cd_of hs
      cases h2
    · cases hs
  all_goals (cases hs)
/-- what stands at a method's end -/
noncomputable def am_rd (b pc : Nat) (v : Option am_V) : Prop := match v with
  | none => decode (am_by.get b) pc = .ok (.return_, 1) ∧ am_rt b = 0
  | some (.inl z) => decode (am_by.get b) pc = .ok (.ireturn, 1) ∧ am_nar (am_rt b) z = true
  | some (.inr (.inl _)) => decode (am_by.get b) pc = .ok (.lreturn, 1) ∧ am_rt b = 2
  | some (.inr (.inr z)) => decode (am_by.get b) pc = .ok (.areturn, 1) ∧ am_rt b = 3 ∧ 0 ≤ z
theorem am_call_nr {m : am_M} {b na rk pc2 : Nat} {rc : Bool} {x : am_R} : ¬ am_call m b na rk pc2 rc L S ω = some (.inr (.inl x)) := by
  intro h
  unfold am_call at h
  split at h
  · obtain ⟨-, h2⟩ := cd_of h
    cases h2
  · cases h
theorem am_slen_no {rk pc2 : Nat} {x : am_R ⊕ (am_M × Nat × List am_V × Nat × am_S)} : ¬ am_slen rk pc2 L S ω = some (.inr x) := by
  intro h
  unfold am_slen at h
  split at h
  · obtain ⟨-, h2⟩ := cd_of h
    cases h2
  · cases h
theorem am_schr_no {rk pc2 : Nat} {x : am_R ⊕ (am_M × Nat × List am_V × Nat × am_S)} : ¬ am_schr rk pc2 L S ω = some (.inr x) := by
  intro h
  unfold am_schr at h
  split at h
  · obtain ⟨-, h2⟩ := cd_of h
    cases h2
  · cases h
theorem am_acpy_no {rk pc2 : Nat} {x : am_R ⊕ (am_M × Nat × List am_V × Nat × am_S)} : ¬ am_acpy rk pc2 L S ω = some (.inr x) := by
  intro h
  unfold am_acpy at h
  split at h
  · obtain ⟨-, h2⟩ := cd_of h
    cases h2
  · cases h
theorem am_step_R {i : Instr} {len : Nat} {v : Option am_V} {ω' : am_W} (hmb : mm.1 ≤ 240) (hcd : am_code mm.1 pc = some (i, len)) (hs : am_st mm i pc L S ω = some (.inr (.inl (v, ω')))) : ω' = ω ∧ S = v.toList ∧ am_rd mm.1 pc v := by
  obtain ⟨hd, hln⟩ := am_dec hmb hcd
  cases i
  case iconst n =>
    change Nat.beq len 1 = true at hln
    obtain rfl := Nat.eq_of_beq_eq_true hln
    change cond (decide (-128 ≤ n) && decide (n ≤ 127)) (am_nx (pc + 1) L (.inl n :: S) ω) none = _ at hs
    obtain ⟨h1, h2⟩ := cd_of hs
    simp only [Bool.and_eq_true, decide_eq_true_eq] at h1
    cases h2
  case bipush n =>
    change Nat.beq len 2 = true at hln
    obtain rfl := Nat.eq_of_beq_eq_true hln
    change cond (decide (-128 ≤ n) && decide (n ≤ 127)) (am_nx (pc + 2) L (.inl n :: S) ω) none = _ at hs
    obtain ⟨h1, h2⟩ := cd_of hs
    simp only [Bool.and_eq_true, decide_eq_true_eq] at h1
    cases h2
  case sipush n =>
    change Nat.beq len 3 = true at hln
    obtain rfl := Nat.eq_of_beq_eq_true hln
    change cond (decide (-32768 ≤ n) && decide (n ≤ 32767)) (am_nx (pc + 3) L (.inl n :: S) ω) none = _ at hs
    obtain ⟨h1, h2⟩ := cd_of hs
    simp only [Bool.and_eq_true, decide_eq_true_eq] at h1
    cases h2
  case lconst n =>
    change Nat.beq len 1 = true at hln
    obtain rfl := Nat.eq_of_beq_eq_true hln
    change am_nx (pc + 1) L (.inr (.inl ((n : Nat) : Int)) :: S) ω = _ at hs
    cases hs
  case iload_n k =>
    change Nat.beq len 1 = true at hln
    obtain rfl := Nat.eq_of_beq_eq_true hln
    change am_ldi L k (pc + 1) S ω = _ at hs
    obtain ⟨z, h1, h2⟩ := am_ldi_of hs
    cases h2
  case iload k =>
    change Nat.beq len 2 = true at hln
    obtain rfl := Nat.eq_of_beq_eq_true hln
    change am_ldi L k (pc + 2) S ω = _ at hs
    obtain ⟨z, h1, h2⟩ := am_ldi_of hs
    cases h2
  case lload_n k =>
    change Nat.beq len 1 = true at hln
    obtain rfl := Nat.eq_of_beq_eq_true hln
    change am_ldl L k (pc + 1) S ω = _ at hs
    obtain ⟨z, h1, h2⟩ := am_ldl_of hs
    cases h2
  case lload k =>
    change Nat.beq len 2 = true at hln
    obtain rfl := Nat.eq_of_beq_eq_true hln
    change am_ldl L k (pc + 2) S ω = _ at hs
    obtain ⟨z, h1, h2⟩ := am_ldl_of hs
    cases h2
  case aload_n k =>
    change Nat.beq len 1 = true at hln
    obtain rfl := Nat.eq_of_beq_eq_true hln
    change am_lda L k (pc + 1) S ω = _ at hs
    obtain ⟨z, h1, h2⟩ := am_lda_of hs
    cases h2
  case aload k =>
    change Nat.beq len 2 = true at hln
    obtain rfl := Nat.eq_of_beq_eq_true hln
    change am_lda L k (pc + 2) S ω = _ at hs
    obtain ⟨z, h1, h2⟩ := am_lda_of hs
    cases h2
  case istore_n k =>
    change Nat.beq len 1 = true at hln
    obtain rfl := Nat.eq_of_beq_eq_true hln
    change am_sti L k (pc + 1) S ω = _ at hs
    obtain ⟨z, T, L2, rfl, h1, h2⟩ := am_sti_of hs
    cases h2
  case istore k =>
    change Nat.beq len 2 = true at hln
    obtain rfl := Nat.eq_of_beq_eq_true hln
    change am_sti L k (pc + 2) S ω = _ at hs
    obtain ⟨z, T, L2, rfl, h1, h2⟩ := am_sti_of hs
    cases h2
  case lstore_n k =>
    change Nat.beq len 1 = true at hln
    obtain rfl := Nat.eq_of_beq_eq_true hln
    change am_stj L k (pc + 1) S ω = _ at hs
    obtain ⟨z, T, L2, rfl, h1, h2⟩ := am_stj_of hs
    cases h2
  case lstore k =>
    change Nat.beq len 2 = true at hln
    obtain rfl := Nat.eq_of_beq_eq_true hln
    change am_stj L k (pc + 2) S ω = _ at hs
    obtain ⟨z, T, L2, rfl, h1, h2⟩ := am_stj_of hs
    cases h2
  case astore_n k =>
    change Nat.beq len 1 = true at hln
    obtain rfl := Nat.eq_of_beq_eq_true hln
    change am_sta L k (pc + 1) S ω = _ at hs
    obtain ⟨z, T, L2, rfl, h1, h2⟩ := am_sta_of hs
    cases h2
  case astore k =>
    change Nat.beq len 2 = true at hln
    obtain rfl := Nat.eq_of_beq_eq_true hln
    change am_sta L k (pc + 2) S ω = _ at hs
    obtain ⟨z, T, L2, rfl, h1, h2⟩ := am_sta_of hs
    cases h2
  case iinc k n =>
    change Nat.beq len 3 = true at hln
    obtain rfl := Nat.eq_of_beq_eq_true hln
    change (match L[k]? with
      | some (some (.inl z)) => am_st1 (am_sto L k (.inl (am_w (z + n)))) (pc + 3) S ω
      | _ => none) = _ at hs
    split at hs
    · rename_i z hz
      obtain ⟨L2, h1, h2⟩ := am_st1_of hs
      cases h2
    · cases hs
  case iadd =>
    change Nat.beq len 1 = true at hln
    obtain rfl := Nat.eq_of_beq_eq_true hln
    change am_b2 (fun a b => am_w (a + b)) (pc + 1) L S ω = _ at hs
    obtain ⟨x, y, T, rfl, h2⟩ := am_b2_of hs
    cases h2
  case isub =>
    change Nat.beq len 1 = true at hln
    obtain rfl := Nat.eq_of_beq_eq_true hln
    change am_b2 (fun a b => am_w (a - b)) (pc + 1) L S ω = _ at hs
    obtain ⟨x, y, T, rfl, h2⟩ := am_b2_of hs
    cases h2
  case imul =>
    change Nat.beq len 1 = true at hln
    obtain rfl := Nat.eq_of_beq_eq_true hln
    change am_b2 (fun a b => am_w (a * b)) (pc + 1) L S ω = _ at hs
    obtain ⟨x, y, T, rfl, h2⟩ := am_b2_of hs
    cases h2
  case iand =>
    change Nat.beq len 1 = true at hln
    obtain rfl := Nat.eq_of_beq_eq_true hln
    change am_b2 am_and (pc + 1) L S ω = _ at hs
    obtain ⟨x, y, T, rfl, h2⟩ := am_b2_of hs
    cases h2
  case ior =>
    change Nat.beq len 1 = true at hln
    obtain rfl := Nat.eq_of_beq_eq_true hln
    change am_b2 am_or (pc + 1) L S ω = _ at hs
    obtain ⟨x, y, T, rfl, h2⟩ := am_b2_of hs
    cases h2
  case ixor =>
    change Nat.beq len 1 = true at hln
    obtain rfl := Nat.eq_of_beq_eq_true hln
    change am_b2 am_xor (pc + 1) L S ω = _ at hs
    obtain ⟨x, y, T, rfl, h2⟩ := am_b2_of hs
    cases h2
  case ishl =>
    change Nat.beq len 1 = true at hln
    obtain rfl := Nat.eq_of_beq_eq_true hln
    change am_b2 am_shl (pc + 1) L S ω = _ at hs
    obtain ⟨x, y, T, rfl, h2⟩ := am_b2_of hs
    cases h2
  case ishr =>
    change Nat.beq len 1 = true at hln
    obtain rfl := Nat.eq_of_beq_eq_true hln
    change am_b2 am_shr (pc + 1) L S ω = _ at hs
    obtain ⟨x, y, T, rfl, h2⟩ := am_b2_of hs
    cases h2
  case iushr =>
    change Nat.beq len 1 = true at hln
    obtain rfl := Nat.eq_of_beq_eq_true hln
    change am_b2 am_ushr (pc + 1) L S ω = _ at hs
    obtain ⟨x, y, T, rfl, h2⟩ := am_b2_of hs
    cases h2
  case idiv =>
    change Nat.beq len 1 = true at hln
    obtain rfl := Nat.eq_of_beq_eq_true hln
    change (match S with
      | .inl b :: .inl a :: S => cond (decide (b = 0)) none (am_nx (pc + 1) L (.inl (am_w (a.tdiv b)) :: S) ω)
      | _ => none) = _ at hs
    split at hs
    · obtain ⟨h1, h2⟩ := cd_ofn hs
      cases h2
    · cases hs
  case irem =>
    change Nat.beq len 1 = true at hln
    obtain rfl := Nat.eq_of_beq_eq_true hln
    change (match S with
      | .inl b :: .inl a :: S => cond (decide (b = 0)) none (am_nx (pc + 1) L (.inl (a.tmod b) :: S) ω)
      | _ => none) = _ at hs
    split at hs
    · obtain ⟨h1, h2⟩ := cd_ofn hs
      cases h2
    · cases hs
  case ldiv =>
    change Nat.beq len 1 = true at hln
    obtain rfl := Nat.eq_of_beq_eq_true hln
    change (match S with
      | .inr (.inl b) :: .inr (.inl a) :: S => cond (decide (b = 0)) none (am_nx (pc + 1) L (.inr (.inl (am_wl (a.tdiv b))) :: S) ω)
      | _ => none) = _ at hs
    split at hs
    · obtain ⟨h1, h2⟩ := cd_ofn hs
      cases h2
    · cases hs
  case lrem =>
    change Nat.beq len 1 = true at hln
    obtain rfl := Nat.eq_of_beq_eq_true hln
    change (match S with
      | .inr (.inl b) :: .inr (.inl a) :: S => cond (decide (b = 0)) none (am_nx (pc + 1) L (.inr (.inl (a.tmod b)) :: S) ω)
      | _ => none) = _ at hs
    split at hs
    · obtain ⟨h1, h2⟩ := cd_ofn hs
      cases h2
    · cases hs
  case ineg =>
    change Nat.beq len 1 = true at hln
    obtain rfl := Nat.eq_of_beq_eq_true hln
    change (match S with
      | .inl a :: S => am_nx (pc + 1) L (.inl (am_w (-a)) :: S) ω
      | _ => none) = _ at hs
    split at hs
    · cases hs
    · cases hs
  case lshl =>
    change Nat.beq len 1 = true at hln
    obtain rfl := Nat.eq_of_beq_eq_true hln
    change (match S with
      | .inl b :: .inr (.inl a) :: S => am_nx (pc + 1) L (.inr (.inl (am_lshl a b)) :: S) ω
      | _ => none) = _ at hs
    split at hs
    · cases hs
    · cases hs
  case lcmp =>
    change Nat.beq len 1 = true at hln
    obtain rfl := Nat.eq_of_beq_eq_true hln
    change (match S with
      | .inr (.inl b) :: .inr (.inl a) :: S => am_nx (pc + 1) L (.inl (am_cmp a b) :: S) ω
      | _ => none) = _ at hs
    split at hs
    · cases hs
    · cases hs
  case i2l =>
    change Nat.beq len 1 = true at hln
    obtain rfl := Nat.eq_of_beq_eq_true hln
    change (match S with
      | .inl a :: S => am_nx (pc + 1) L (.inr (.inl a) :: S) ω
      | _ => none) = _ at hs
    split at hs
    · cases hs
    · cases hs
  case l2i =>
    change Nat.beq len 1 = true at hln
    obtain rfl := Nat.eq_of_beq_eq_true hln
    change (match S with
      | .inr (.inl a) :: S => am_nx (pc + 1) L (.inl (am_w a) :: S) ω
      | _ => none) = _ at hs
    split at hs
    · cases hs
    · cases hs
  case i2b =>
    change Nat.beq len 1 = true at hln
    obtain rfl := Nat.eq_of_beq_eq_true hln
    change (match S with
      | .inl a :: S => am_nx (pc + 1) L (.inl (a.bmod 256) :: S) ω
      | _ => none) = _ at hs
    split at hs
    · cases hs
    · cases hs
  case i2s =>
    change Nat.beq len 1 = true at hln
    obtain rfl := Nat.eq_of_beq_eq_true hln
    change (match S with
      | .inl a :: S => am_nx (pc + 1) L (.inl (a.bmod 65536) :: S) ω
      | _ => none) = _ at hs
    split at hs
    · cases hs
    · cases hs
  case dup_x1 =>
    change Nat.beq len 1 = true at hln
    obtain rfl := Nat.eq_of_beq_eq_true hln
    change (match S with
      | .inl z :: .inr (.inr r) :: S => am_nx (pc + 1) L (.inl z :: .inr (.inr r) :: .inl z :: S) ω
      | _ => none) = _ at hs
    split at hs
    · cases hs
    · cases hs
  case dup2 =>
    change Nat.beq len 1 = true at hln
    obtain rfl := Nat.eq_of_beq_eq_true hln
    change (match S with
      | .inl z :: .inr (.inr r) :: S => am_nx (pc + 1) L (.inl z :: .inr (.inr r) :: .inl z :: .inr (.inr r) :: S) ω
      | _ => none) = _ at hs
    split at hs
    · cases hs
    · cases hs
  case ladd =>
    change Nat.beq len 1 = true at hln
    obtain rfl := Nat.eq_of_beq_eq_true hln
    change am_j2 (fun a b => am_wl (a + b)) (pc + 1) L S ω = _ at hs
    obtain ⟨x, y, T, rfl, h2⟩ := am_j2_of hs
    cases h2
  case lmul =>
    change Nat.beq len 1 = true at hln
    obtain rfl := Nat.eq_of_beq_eq_true hln
    change am_j2 (fun a b => am_wl (a * b)) (pc + 1) L S ω = _ at hs
    obtain ⟨x, y, T, rfl, h2⟩ := am_j2_of hs
    cases h2
  case land =>
    change Nat.beq len 1 = true at hln
    obtain rfl := Nat.eq_of_beq_eq_true hln
    change am_j2 am_land (pc + 1) L S ω = _ at hs
    obtain ⟨x, y, T, rfl, h2⟩ := am_j2_of hs
    cases h2
  case lor =>
    change Nat.beq len 1 = true at hln
    obtain rfl := Nat.eq_of_beq_eq_true hln
    change am_j2 am_lor (pc + 1) L S ω = _ at hs
    obtain ⟨x, y, T, rfl, h2⟩ := am_j2_of hs
    cases h2
  case ldc idx =>
    change Nat.beq len 2 = true at hln
    obtain rfl := Nat.eq_of_beq_eq_true hln
    change (match am_lk (am_pc.get (am_own mm.1)) idx, am_lk (am_ps.get (am_own mm.1)) idx with
      | some (z, _), _ => am_nx (pc + 2) L (.inl z :: S) ω
      | none, some (k, _) => am_nx (pc + 2) L (.inr (.inr (-3 - (k : Int))) :: S) ω
      | none, none => none) = _ at hs
    split at hs
    · rename_i z w hz
      cases hs
    · rename_i k2 w hz
      cases hs
    · cases hs
  case ldc_w idx =>
    change Nat.beq len 3 = true at hln
    obtain rfl := Nat.eq_of_beq_eq_true hln
    change (match am_lk (am_pc.get (am_own mm.1)) idx with
      | some (z, _) => am_nx (pc + 3) L (.inl z :: S) ω
      | none => none) = _ at hs
    split at hs
    · cases hs
    · cases hs
  case ldc2_w idx =>
    change Nat.beq len 3 = true at hln
    obtain rfl := Nat.eq_of_beq_eq_true hln
    change (match am_lk (am_pl.get (am_own mm.1)) idx with
      | some (z, _) => am_nx (pc + 3) L (.inr (.inl z) :: S) ω
      | none => none) = _ at hs
    split at hs
    · cases hs
    · cases hs
  case dup =>
    change Nat.beq len 1 = true at hln
    obtain rfl := Nat.eq_of_beq_eq_true hln
    change (match S with
      | .inl z :: S => am_nx (pc + 1) L (.inl z :: .inl z :: S) ω
      | .inr (.inr z) :: S => am_nx (pc + 1) L (.inr (.inr z) :: .inr (.inr z) :: S) ω
      | _ => none) = _ at hs
    split at hs
    · cases hs
    · cases hs
    · cases hs
  case pop =>
    change Nat.beq len 1 = true at hln
    obtain rfl := Nat.eq_of_beq_eq_true hln
    change (match S with
      | .inl _ :: S => am_nx (pc + 1) L S ω
      | .inr (.inr _) :: S => am_nx (pc + 1) L S ω
      | _ => none) = _ at hs
    split at hs
    · cases hs
    · cases hs
    · cases hs
  case goto off =>
    change Nat.beq len 3 = true at hln
    obtain rfl := Nat.eq_of_beq_eq_true hln
    change am_jp ((pc : Int) + off) L S ω = _ at hs
    obtain ⟨h1, h2⟩ := am_jp_of hs
    cases h2
  case ifCond c off =>
    change Nat.beq len 3 = true at hln
    obtain rfl := Nat.eq_of_beq_eq_true hln
    change (match S with
      | .inl a :: S => am_br (am_cc c a 0) ((pc : Int) + off) (pc + 3) L S ω
      | _ => none) = _ at hs
    split at hs
    · obtain ⟨h1, h2⟩ := am_br_of hs
      cases h2
    · cases hs
  case if_icmp c off =>
    change Nat.beq len 3 = true at hln
    obtain rfl := Nat.eq_of_beq_eq_true hln
    change (match S with
      | .inl b :: .inl a :: S => am_br (am_cc c a b) ((pc : Int) + off) (pc + 3) L S ω
      | _ => none) = _ at hs
    split at hs
    · obtain ⟨h1, h2⟩ := am_br_of hs
      cases h2
    · cases hs
  case ifnonnull off =>
    change Nat.beq len 3 = true at hln
    obtain rfl := Nat.eq_of_beq_eq_true hln
    change (match S with
      | .inr (.inr r) :: S => am_br (decide (¬ r = -1)) ((pc : Int) + off) (pc + 3) L S ω
      | _ => none) = _ at hs
    split at hs
    · obtain ⟨h1, h2⟩ := am_br_of hs
      cases h2
    · cases hs
  case tableswitch dflt lo hi offs =>
    change (match S with
      | .inl z :: S => (match am_tsw dflt lo hi offs z with
      | some off => am_jp ((pc : Int) + off) L S ω
      | none => none)
      | _ => none) = _ at hs
    split at hs
    · split at hs
      · rename_i off ho
        obtain ⟨h1, h2⟩ := am_jp_of hs
        cases h2
      · cases hs
    · cases hs
  case getfield idx =>
    change Nat.beq len 3 = true at hln
    obtain rfl := Nat.eq_of_beq_eq_true hln
    change am_getf (am_own mm.1) idx (pc + 3) L S ω = _ at hs
    unfold am_getf at hs
    split at hs
    · obtain ⟨h1, h2⟩ := cd_of hs
      cases h2
    · cases hs
  case putfield idx =>
    change Nat.beq len 3 = true at hln
    obtain rfl := Nat.eq_of_beq_eq_true hln
    change am_putf (am_own mm.1) mm.1 idx (pc + 3) L S ω = _ at hs
    unfold am_putf at hs
    split at hs
    · obtain ⟨h1, h2⟩ := cd_of hs
      cases h2
    · obtain ⟨h1, h2⟩ := cd_of hs
      cases h2
    · cases hs
  case arraylength =>
    change Nat.beq len 1 = true at hln
    obtain rfl := Nat.eq_of_beq_eq_true hln
    change (match S with
      | .inr (.inr r) :: S => cond (Nat.beq mm.1 240 && decide (r = -2)) (am_nx (pc + 1) L (.inl (ω.2.2.1 : Int) :: S) ω) (cond (am_ar ω r 100 || am_ar ω r 101) (am_nx (pc + 1) L (.inl (am_len ω r) :: S) ω) none)
      | _ => none) = _ at hs
    split at hs
    · rename_i r T
      cases hr : (Nat.beq mm.1 240 && decide (r = -2)) with
      | true =>
        rw [hr] at hs
        rw [Bool.and_eq_true] at hr
        obtain rfl := of_decide_eq_true hr.2
        cases hs
      | false =>
        rw [hr] at hs
        obtain ⟨h1, h2⟩ := cd_of (show cond (am_ar ω r 100 || am_ar ω r 101) (am_nx (pc + 1) L (.inl (am_len ω r) :: T) ω) none = _ from hs)
        cases h2
    · cases hs
  case iaload =>
    change Nat.beq len 1 = true at hln
    obtain rfl := Nat.eq_of_beq_eq_true hln
    change (match S with
      | .inl j :: .inr (.inr r) :: S => cond (Nat.beq mm.1 240 && decide (r = -2)) (cond (decide (0 ≤ j) && decide (j < (ω.2.2.1 : Int))) (am_nx (pc + 1) L (.inl (ω.2.2.2 j.toNat) :: S) ω) none) (cond (am_in ω r 100 j) (am_nx (pc + 1) L (.inl (am_get ω r.toNat j.toNat) :: S) ω) none)
      | _ => none) = _ at hs
    split at hs
    · rename_i j r T
      cases hr : (Nat.beq mm.1 240 && decide (r = -2)) with
      | true =>
        rw [hr] at hs
        rw [Bool.and_eq_true] at hr
        obtain rfl := of_decide_eq_true hr.2
        obtain ⟨h1, h2⟩ := cd_of (show cond (decide (0 ≤ j) && decide (j < (ω.2.2.1 : Int))) (am_nx (pc + 1) L (.inl (ω.2.2.2 j.toNat) :: T) ω) none = _ from hs)
        cases h2
      | false =>
        rw [hr] at hs
        obtain ⟨h1, h2⟩ := cd_of (show cond (am_in ω r 100 j) (am_nx (pc + 1) L (.inl (am_get ω r.toNat j.toNat) :: T) ω) none = _ from hs)
        cases h2
    · cases hs
  case laload =>
    change Nat.beq len 1 = true at hln
    obtain rfl := Nat.eq_of_beq_eq_true hln
    change (match S with
      | .inl j :: .inr (.inr r) :: S => cond (am_in ω r 101 j) (am_nx (pc + 1) L (.inr (.inl (am_get ω r.toNat j.toNat)) :: S) ω) none
      | _ => none) = _ at hs
    split at hs
    · obtain ⟨h1, h2⟩ := cd_of hs
      cases h2
    · cases hs
  case aaload =>
    change Nat.beq len 1 = true at hln
    obtain rfl := Nat.eq_of_beq_eq_true hln
    change (match S with
      | .inl j :: .inr (.inr r) :: S => cond (am_in ω r 102 j || (am_in ω r 103 j || am_in ω r 104 j)) (am_nx (pc + 1) L (.inr (.inr (am_get ω r.toNat j.toNat)) :: S) ω) none
      | _ => none) = _ at hs
    split at hs
    · obtain ⟨h1, h2⟩ := cd_of hs
      cases h2
    · cases hs
  case iastore =>
    change Nat.beq len 1 = true at hln
    obtain rfl := Nat.eq_of_beq_eq_true hln
    change (match S with
      | .inl z :: .inl j :: .inr (.inr r) :: S => cond (am_in ω r 100 j) (am_nx (pc + 1) L S (am_put ω r.toNat j.toNat z)) none
      | _ => none) = _ at hs
    split at hs
    · obtain ⟨h1, h2⟩ := cd_of hs
      cases h2
    · cases hs
  case lastore =>
    change Nat.beq len 1 = true at hln
    obtain rfl := Nat.eq_of_beq_eq_true hln
    change (match S with
      | .inr (.inl z) :: .inl j :: .inr (.inr r) :: S => cond (am_in ω r 101 j) (am_nx (pc + 1) L S (am_put ω r.toNat j.toNat z)) none
      | _ => none) = _ at hs
    split at hs
    · obtain ⟨h1, h2⟩ := cd_of hs
      cases h2
    · cases hs
  case aastore =>
    change Nat.beq len 1 = true at hln
    obtain rfl := Nat.eq_of_beq_eq_true hln
    change (match S with
      | .inr (.inr z) :: .inl j :: .inr (.inr r) :: S => cond ((am_in ω r 102 j && am_is ω z (4, 5)) || (am_in ω r 103 j && am_is ω z (2, 3))) (am_nx (pc + 1) L S (am_put ω r.toNat j.toNat z)) none
      | _ => none) = _ at hs
    split at hs
    · obtain ⟨h1, h2⟩ := cd_of hs
      cases h2
    · cases hs
  case new idx =>
    change Nat.beq len 3 = true at hln
    obtain rfl := Nat.eq_of_beq_eq_true hln
    change (match am_lk (am_pn.get (am_own mm.1)) idx with
      | some (ci, _) => cond (decide (ci < 8)) (am_nx (pc + 3) L (.inr (.inr (ω.1.length : Int)) :: S) (am_new ω (ci, am_nf ci) (am_d0 ci))) none
      | none => none) = _ at hs
    split at hs
    · obtain ⟨h1, h2⟩ := cd_of hs
      cases h2
    · cases hs
  case newarray ty =>
    change Nat.beq len 2 = true at hln
    obtain rfl := Nat.eq_of_beq_eq_true hln
    change (match S with
      | .inl n :: S => cond (decide (0 ≤ n) && decide (n ≤ 100000)) (match ty with
      | .int => am_nx (pc + 2) L (.inr (.inr (ω.1.length : Int)) :: S) (am_new ω (100, n.toNat) (fun _ => 0))
      | .long => am_nx (pc + 2) L (.inr (.inr (ω.1.length : Int)) :: S) (am_new ω (101, n.toNat) (fun _ => 0))
      | _ => none) none
      | _ => none) = _ at hs
    split at hs
    · obtain ⟨h1, h2⟩ := cd_of hs
      simp only [Bool.and_eq_true, decide_eq_true_eq] at h1
      split at h2
      · cases h2
      · cases h2
      · cases h2
    · cases hs
  case anewarray idx =>
    change Nat.beq len 3 = true at hln
    obtain rfl := Nat.eq_of_beq_eq_true hln
    change (match am_lk (am_pn.get (am_own mm.1)) idx, S with
      | some (ci, _), .inl n :: S => cond (decide (0 ≤ n) && decide (n ≤ 100000)) (match ci with
      | 4 => am_nx (pc + 3) L (.inr (.inr (ω.1.length : Int)) :: S) (am_new ω (102, n.toNat) (fun _ => -1))
      | 2 => am_nx (pc + 3) L (.inr (.inr (ω.1.length : Int)) :: S) (am_new ω (103, n.toNat) (fun _ => -1))
      | _ => none) none
      | _, _ => none) = _ at hs
    split at hs
    · obtain ⟨h1, h2⟩ := cd_of hs
      simp only [Bool.and_eq_true, decide_eq_true_eq] at h1
      split at h2
      · cases h2
      · cases h2
      · cases h2
    · cases hs
  case multianewarray idx dims =>
    change Nat.beq len 4 = true at hln
    obtain rfl := Nat.eq_of_beq_eq_true hln
    change (match am_lk (am_pn.get (am_own mm.1)) idx, S with
      | some (104, _), .inl k :: .inl n :: S => cond (Nat.beq dims 2 && (decide (0 ≤ n) && (decide (n ≤ 1000) && (decide (0 ≤ k) && decide (k ≤ 100000))))) (am_nx (pc + 4) L (.inr (.inr (ω.1.length : Int)) :: S) (am_newg ω n.toNat k.toNat)) none
      | _, _ => none) = _ at hs
    split at hs
    · obtain ⟨h1, h2⟩ := cd_of hs
      simp only [Bool.and_eq_true, decide_eq_true_eq] at h1
      obtain ⟨g0, g1, g2, g3, g4⟩ := h1
      obtain rfl := Nat.eq_of_beq_eq_true g0
      cases h2
    · cases hs
  case invokevirtual idx =>
    change Nat.beq len 3 = true at hln
    obtain rfl := Nat.eq_of_beq_eq_true hln
    change am_inv 0 mm idx (pc + 3) L S ω = _ at hs
    unfold am_inv at hs
    split at hs
    · split at hs
      all_goals (first | (exfalso; omega) | (exfalso; exact am_call_nr hs) | (exfalso; exact am_slen_no hs) | (exfalso; exact am_schr_no hs) | (exfalso; exact am_acpy_no hs) | (exfalso; cases hs; done) | (split at hs; (obtain ⟨h1, h2⟩ := cd_of hs; cases h2); cases hs))
    · cases hs
  case invokestatic idx =>
    change Nat.beq len 3 = true at hln
    obtain rfl := Nat.eq_of_beq_eq_true hln
    change am_inv 1 mm idx (pc + 3) L S ω = _ at hs
    unfold am_inv at hs
    split at hs
    · split at hs
      all_goals (first | (exfalso; omega) | (exfalso; exact am_call_nr hs) | (exfalso; exact am_slen_no hs) | (exfalso; exact am_schr_no hs) | (exfalso; exact am_acpy_no hs) | (exfalso; cases hs; done) | (split at hs; (obtain ⟨h1, h2⟩ := cd_of hs; cases h2); cases hs))
    · cases hs
  case invokespecial idx =>
    change Nat.beq len 3 = true at hln
    obtain rfl := Nat.eq_of_beq_eq_true hln
    change am_inv 2 mm idx (pc + 3) L S ω = _ at hs
    unfold am_inv at hs
    split at hs
    · split at hs
      all_goals (first | (exfalso; omega) | (exfalso; exact am_call_nr hs) | (exfalso; exact am_slen_no hs) | (exfalso; exact am_schr_no hs) | (exfalso; exact am_acpy_no hs) | (exfalso; cases hs; done) | (split at hs; (obtain ⟨h1, h2⟩ := cd_of hs; cases h2); cases hs))
    · cases hs
  case ireturn =>
    change Nat.beq len 1 = true at hln
    obtain rfl := Nat.eq_of_beq_eq_true hln
    change (match S with
      | [.inl z] => cond (am_nar (am_rt mm.1) z) (am_rv (some (.inl z)) ω) none
      | _ => none) = _ at hs
    split at hs
    · obtain ⟨h1, h2⟩ := cd_of hs
      cases h2
      exact ⟨rfl, rfl, hd, h1⟩
    · cases hs
  case lreturn =>
    change Nat.beq len 1 = true at hln
    obtain rfl := Nat.eq_of_beq_eq_true hln
    change (match S with
      | [.inr (.inl z)] => cond (Nat.beq (am_rt mm.1) 2) (am_rv (some (.inr (.inl z))) ω) none
      | _ => none) = _ at hs
    split at hs
    · obtain ⟨h1, h2⟩ := cd_of hs
      cases h2
      exact ⟨rfl, rfl, hd, Nat.eq_of_beq_eq_true h1⟩
    · cases hs
  case areturn =>
    change Nat.beq len 1 = true at hln
    obtain rfl := Nat.eq_of_beq_eq_true hln
    change (match S with
      | [.inr (.inr z)] => cond (Nat.beq (am_rt mm.1) 3 && am_is ω z (1, 15)) (am_rv (some (.inr (.inr z))) ω) none
      | _ => none) = _ at hs
    split at hs
    · obtain ⟨h1, h2⟩ := cd_of hs
      cases h2
      rw [Bool.and_eq_true] at h1; exact ⟨rfl, rfl, hd, Nat.eq_of_beq_eq_true h1.1, (am_is_of h1.2).1⟩
    · cases hs
  case return_ =>
    change Nat.beq len 1 = true at hln
    obtain rfl := Nat.eq_of_beq_eq_true hln
    change (match S with
      | [] => cond (Nat.beq (am_rt mm.1) 0) (am_rv none ω) none
      | _ => none) = _ at hs
    split at hs
    · obtain ⟨h1, h2⟩ := cd_of hs
      cases h2
      exact ⟨rfl, rfl, hd, Nat.eq_of_beq_eq_true h1⟩
    · cases hs
  all_goals (cases hs)
theorem am_lv_of {m' : am_M} {b : Nat} (h : am_lv mm b = some m') : m'.1 = b := by
  unfold am_lv at h
  cases h1 : am_rec b with
  | false => rw [h1] at h; cases h; rfl
  | true =>
    rw [h1] at h
    cases h2 : am_rec mm.1 with
    | false => rw [h2] at h; cases h; rfl
    | true =>
      rw [h2] at h
      have h : (match mm.2 with | 0 => none | k + 1 => some (b, k)) = some m' := h
      split at h
      · cases h
      · cases h; rfl
theorem am_call_of {b na rk pc2 : Nat} {rc : Bool} {a : am_Act} (h : am_call mm b na rk pc2 rc L S ω = some a) : ∃ as S' m', am_args na S = some (as, S') ∧ m'.1 = b ∧ am_rk m' + 1 ≤ am_rk mm ∧ (am_spread as).length ≤ am_max b ∧ (rc = true → ∃ r as', as = .inr (.inr r) :: as' ∧ am_is ω r (am_own b, am_nf (am_own b)) = true) ∧ a = .inr (.inr (m', rk, as, pc2, L, S', ω)) := by
  unfold am_call at h
  split at h
  · rename_i as S' m' e1 e2
    obtain ⟨h1, h2⟩ := cd_of h
    simp only [Bool.and_eq_true] at h1
    refine ⟨as, S', m', e1, am_lv_of e2, Nat.le_of_ble_eq_true h1.2.1, Nat.le_of_ble_eq_true h1.2.2, fun hrc => ?_, (Option.some.inj h2).symm⟩
    subst hrc
    have h3 := h1.1
    rw [show (!true) = false from rfl, Bool.false_or] at h3
    split at h3
    · exact ⟨_, _, rfl, h3⟩
    · cases h3
  · cases h
theorem am_kd_240 {idx kd b na rk w w2 w3 w4 : Nat} {o : Nat} (ho : o < 12) (h : am_lk (am_pm.get o) idx = some (kd, b, na, rk, w, w2, w3, w4)) (hk : kd = 0 ∨ kd = 2 ∨ kd = 3 ∨ kd = 4 ∨ kd = 5) : b < 240 := by
  obtain ⟨hne, hok⟩ := am_okp_at ho h
  unfold am_okp at hok
  replace hok := (Bool.or_eq_true_iff.mp hok).resolve_left (fun q => hne (Nat.eq_of_beq_eq_true q))
  dsimp only at hok
  rcases hk with rfl | rfl | rfl | rfl | rfl <;> (simp only [Bool.and_eq_true, decide_eq_true_eq] at hok; omega)
theorem am_step_C {i : Instr} {len pc' rk : Nat} {m' : am_M} {as S' : List am_V} {L' : am_L} {ω' : am_W} (hmb : mm.1 ≤ 240) (hcd : am_code mm.1 pc = some (i, len)) (hs : am_st mm i pc L S ω = some (.inr (.inr (m', rk, as, pc', L', S', ω')))) : ω' = ω ∧ m'.1 < 240 ∧ (am_spread as).length ≤ am_max m'.1 ∧ (am_Cx G mm A p R s m args meth c sc → ∀ (v : Option am_V) (ω1 : am_W) (S1 : List am_V), (∀ AD : List Nat, AD.length = ω.1.length → am_okS ω.1.length as → am_Mt l G A AD m' as ω v ω1) → am_Gw ω ω1 → ω1.1.length ≤ c0 + R.cells → am_sl ω1.1 ≤ s0 + R.slots → am_push rk v S' = some S1 → am_J G mm A p l e R s m args below meth c Q c0 s0 sc AD0 pc' L' S1 ω1 → am_J G mm A p l e R s m args below meth c Q c0 s0 sc AD0 pc L S ω) := by
  obtain ⟨hd, hln⟩ := am_dec hmb hcd
  cases i
  case iconst n =>
    change Nat.beq len 1 = true at hln
    obtain rfl := Nat.eq_of_beq_eq_true hln
    change cond (decide (-128 ≤ n) && decide (n ≤ 127)) (am_nx (pc + 1) L (.inl n :: S) ω) none = _ at hs
    obtain ⟨h1, h2⟩ := cd_of hs
    simp only [Bool.and_eq_true, decide_eq_true_eq] at h1
    cases h2
  case bipush n =>
    change Nat.beq len 2 = true at hln
    obtain rfl := Nat.eq_of_beq_eq_true hln
    change cond (decide (-128 ≤ n) && decide (n ≤ 127)) (am_nx (pc + 2) L (.inl n :: S) ω) none = _ at hs
    obtain ⟨h1, h2⟩ := cd_of hs
    simp only [Bool.and_eq_true, decide_eq_true_eq] at h1
    cases h2
  case sipush n =>
    change Nat.beq len 3 = true at hln
    obtain rfl := Nat.eq_of_beq_eq_true hln
    change cond (decide (-32768 ≤ n) && decide (n ≤ 32767)) (am_nx (pc + 3) L (.inl n :: S) ω) none = _ at hs
    obtain ⟨h1, h2⟩ := cd_of hs
    simp only [Bool.and_eq_true, decide_eq_true_eq] at h1
    cases h2
  case lconst n =>
    change Nat.beq len 1 = true at hln
    obtain rfl := Nat.eq_of_beq_eq_true hln
    change am_nx (pc + 1) L (.inr (.inl ((n : Nat) : Int)) :: S) ω = _ at hs
    cases hs
  case iload_n k =>
    change Nat.beq len 1 = true at hln
    obtain rfl := Nat.eq_of_beq_eq_true hln
    change am_ldi L k (pc + 1) S ω = _ at hs
    obtain ⟨z, h1, h2⟩ := am_ldi_of hs
    cases h2
  case iload k =>
    change Nat.beq len 2 = true at hln
    obtain rfl := Nat.eq_of_beq_eq_true hln
    change am_ldi L k (pc + 2) S ω = _ at hs
    obtain ⟨z, h1, h2⟩ := am_ldi_of hs
    cases h2
  case lload_n k =>
    change Nat.beq len 1 = true at hln
    obtain rfl := Nat.eq_of_beq_eq_true hln
    change am_ldl L k (pc + 1) S ω = _ at hs
    obtain ⟨z, h1, h2⟩ := am_ldl_of hs
    cases h2
  case lload k =>
    change Nat.beq len 2 = true at hln
    obtain rfl := Nat.eq_of_beq_eq_true hln
    change am_ldl L k (pc + 2) S ω = _ at hs
    obtain ⟨z, h1, h2⟩ := am_ldl_of hs
    cases h2
  case aload_n k =>
    change Nat.beq len 1 = true at hln
    obtain rfl := Nat.eq_of_beq_eq_true hln
    change am_lda L k (pc + 1) S ω = _ at hs
    obtain ⟨z, h1, h2⟩ := am_lda_of hs
    cases h2
  case aload k =>
    change Nat.beq len 2 = true at hln
    obtain rfl := Nat.eq_of_beq_eq_true hln
    change am_lda L k (pc + 2) S ω = _ at hs
    obtain ⟨z, h1, h2⟩ := am_lda_of hs
    cases h2
  case istore_n k =>
    change Nat.beq len 1 = true at hln
    obtain rfl := Nat.eq_of_beq_eq_true hln
    change am_sti L k (pc + 1) S ω = _ at hs
    obtain ⟨z, T, L2, rfl, h1, h2⟩ := am_sti_of hs
    cases h2
  case istore k =>
    change Nat.beq len 2 = true at hln
    obtain rfl := Nat.eq_of_beq_eq_true hln
    change am_sti L k (pc + 2) S ω = _ at hs
    obtain ⟨z, T, L2, rfl, h1, h2⟩ := am_sti_of hs
    cases h2
  case lstore_n k =>
    change Nat.beq len 1 = true at hln
    obtain rfl := Nat.eq_of_beq_eq_true hln
    change am_stj L k (pc + 1) S ω = _ at hs
    obtain ⟨z, T, L2, rfl, h1, h2⟩ := am_stj_of hs
    cases h2
  case lstore k =>
    change Nat.beq len 2 = true at hln
    obtain rfl := Nat.eq_of_beq_eq_true hln
    change am_stj L k (pc + 2) S ω = _ at hs
    obtain ⟨z, T, L2, rfl, h1, h2⟩ := am_stj_of hs
    cases h2
  case astore_n k =>
    change Nat.beq len 1 = true at hln
    obtain rfl := Nat.eq_of_beq_eq_true hln
    change am_sta L k (pc + 1) S ω = _ at hs
    obtain ⟨z, T, L2, rfl, h1, h2⟩ := am_sta_of hs
    cases h2
  case astore k =>
    change Nat.beq len 2 = true at hln
    obtain rfl := Nat.eq_of_beq_eq_true hln
    change am_sta L k (pc + 2) S ω = _ at hs
    obtain ⟨z, T, L2, rfl, h1, h2⟩ := am_sta_of hs
    cases h2
  case iinc k n =>
    change Nat.beq len 3 = true at hln
    obtain rfl := Nat.eq_of_beq_eq_true hln
    change (match L[k]? with
      | some (some (.inl z)) => am_st1 (am_sto L k (.inl (am_w (z + n)))) (pc + 3) S ω
      | _ => none) = _ at hs
    split at hs
    · rename_i z hz
      obtain ⟨L2, h1, h2⟩ := am_st1_of hs
      cases h2
    · cases hs
  case iadd =>
    change Nat.beq len 1 = true at hln
    obtain rfl := Nat.eq_of_beq_eq_true hln
    change am_b2 (fun a b => am_w (a + b)) (pc + 1) L S ω = _ at hs
    obtain ⟨x, y, T, rfl, h2⟩ := am_b2_of hs
    cases h2
  case isub =>
    change Nat.beq len 1 = true at hln
    obtain rfl := Nat.eq_of_beq_eq_true hln
    change am_b2 (fun a b => am_w (a - b)) (pc + 1) L S ω = _ at hs
    obtain ⟨x, y, T, rfl, h2⟩ := am_b2_of hs
    cases h2
  case imul =>
    change Nat.beq len 1 = true at hln
    obtain rfl := Nat.eq_of_beq_eq_true hln
    change am_b2 (fun a b => am_w (a * b)) (pc + 1) L S ω = _ at hs
    obtain ⟨x, y, T, rfl, h2⟩ := am_b2_of hs
    cases h2
  case iand =>
    change Nat.beq len 1 = true at hln
    obtain rfl := Nat.eq_of_beq_eq_true hln
    change am_b2 am_and (pc + 1) L S ω = _ at hs
    obtain ⟨x, y, T, rfl, h2⟩ := am_b2_of hs
    cases h2
  case ior =>
    change Nat.beq len 1 = true at hln
    obtain rfl := Nat.eq_of_beq_eq_true hln
    change am_b2 am_or (pc + 1) L S ω = _ at hs
    obtain ⟨x, y, T, rfl, h2⟩ := am_b2_of hs
    cases h2
  case ixor =>
    change Nat.beq len 1 = true at hln
    obtain rfl := Nat.eq_of_beq_eq_true hln
    change am_b2 am_xor (pc + 1) L S ω = _ at hs
    obtain ⟨x, y, T, rfl, h2⟩ := am_b2_of hs
    cases h2
  case ishl =>
    change Nat.beq len 1 = true at hln
    obtain rfl := Nat.eq_of_beq_eq_true hln
    change am_b2 am_shl (pc + 1) L S ω = _ at hs
    obtain ⟨x, y, T, rfl, h2⟩ := am_b2_of hs
    cases h2
  case ishr =>
    change Nat.beq len 1 = true at hln
    obtain rfl := Nat.eq_of_beq_eq_true hln
    change am_b2 am_shr (pc + 1) L S ω = _ at hs
    obtain ⟨x, y, T, rfl, h2⟩ := am_b2_of hs
    cases h2
  case iushr =>
    change Nat.beq len 1 = true at hln
    obtain rfl := Nat.eq_of_beq_eq_true hln
    change am_b2 am_ushr (pc + 1) L S ω = _ at hs
    obtain ⟨x, y, T, rfl, h2⟩ := am_b2_of hs
    cases h2
  case idiv =>
    change Nat.beq len 1 = true at hln
    obtain rfl := Nat.eq_of_beq_eq_true hln
    change (match S with
      | .inl b :: .inl a :: S => cond (decide (b = 0)) none (am_nx (pc + 1) L (.inl (am_w (a.tdiv b)) :: S) ω)
      | _ => none) = _ at hs
    split at hs
    · obtain ⟨h1, h2⟩ := cd_ofn hs
      cases h2
    · cases hs
  case irem =>
    change Nat.beq len 1 = true at hln
    obtain rfl := Nat.eq_of_beq_eq_true hln
    change (match S with
      | .inl b :: .inl a :: S => cond (decide (b = 0)) none (am_nx (pc + 1) L (.inl (a.tmod b) :: S) ω)
      | _ => none) = _ at hs
    split at hs
    · obtain ⟨h1, h2⟩ := cd_ofn hs
      cases h2
    · cases hs
  case ldiv =>
    change Nat.beq len 1 = true at hln
    obtain rfl := Nat.eq_of_beq_eq_true hln
    change (match S with
      | .inr (.inl b) :: .inr (.inl a) :: S => cond (decide (b = 0)) none (am_nx (pc + 1) L (.inr (.inl (am_wl (a.tdiv b))) :: S) ω)
      | _ => none) = _ at hs
    split at hs
    · obtain ⟨h1, h2⟩ := cd_ofn hs
      cases h2
    · cases hs
  case lrem =>
    change Nat.beq len 1 = true at hln
    obtain rfl := Nat.eq_of_beq_eq_true hln
    change (match S with
      | .inr (.inl b) :: .inr (.inl a) :: S => cond (decide (b = 0)) none (am_nx (pc + 1) L (.inr (.inl (a.tmod b)) :: S) ω)
      | _ => none) = _ at hs
    split at hs
    · obtain ⟨h1, h2⟩ := cd_ofn hs
      cases h2
    · cases hs
  case ineg =>
    change Nat.beq len 1 = true at hln
    obtain rfl := Nat.eq_of_beq_eq_true hln
    change (match S with
      | .inl a :: S => am_nx (pc + 1) L (.inl (am_w (-a)) :: S) ω
      | _ => none) = _ at hs
    split at hs
    · cases hs
    · cases hs
  case lshl =>
    change Nat.beq len 1 = true at hln
    obtain rfl := Nat.eq_of_beq_eq_true hln
    change (match S with
      | .inl b :: .inr (.inl a) :: S => am_nx (pc + 1) L (.inr (.inl (am_lshl a b)) :: S) ω
      | _ => none) = _ at hs
    split at hs
    · cases hs
    · cases hs
  case lcmp =>
    change Nat.beq len 1 = true at hln
    obtain rfl := Nat.eq_of_beq_eq_true hln
    change (match S with
      | .inr (.inl b) :: .inr (.inl a) :: S => am_nx (pc + 1) L (.inl (am_cmp a b) :: S) ω
      | _ => none) = _ at hs
    split at hs
    · cases hs
    · cases hs
  case i2l =>
    change Nat.beq len 1 = true at hln
    obtain rfl := Nat.eq_of_beq_eq_true hln
    change (match S with
      | .inl a :: S => am_nx (pc + 1) L (.inr (.inl a) :: S) ω
      | _ => none) = _ at hs
    split at hs
    · cases hs
    · cases hs
  case l2i =>
    change Nat.beq len 1 = true at hln
    obtain rfl := Nat.eq_of_beq_eq_true hln
    change (match S with
      | .inr (.inl a) :: S => am_nx (pc + 1) L (.inl (am_w a) :: S) ω
      | _ => none) = _ at hs
    split at hs
    · cases hs
    · cases hs
  case i2b =>
    change Nat.beq len 1 = true at hln
    obtain rfl := Nat.eq_of_beq_eq_true hln
    change (match S with
      | .inl a :: S => am_nx (pc + 1) L (.inl (a.bmod 256) :: S) ω
      | _ => none) = _ at hs
    split at hs
    · cases hs
    · cases hs
  case i2s =>
    change Nat.beq len 1 = true at hln
    obtain rfl := Nat.eq_of_beq_eq_true hln
    change (match S with
      | .inl a :: S => am_nx (pc + 1) L (.inl (a.bmod 65536) :: S) ω
      | _ => none) = _ at hs
    split at hs
    · cases hs
    · cases hs
  case dup_x1 =>
    change Nat.beq len 1 = true at hln
    obtain rfl := Nat.eq_of_beq_eq_true hln
    change (match S with
      | .inl z :: .inr (.inr r) :: S => am_nx (pc + 1) L (.inl z :: .inr (.inr r) :: .inl z :: S) ω
      | _ => none) = _ at hs
    split at hs
    · cases hs
    · cases hs
  case dup2 =>
    change Nat.beq len 1 = true at hln
    obtain rfl := Nat.eq_of_beq_eq_true hln
    change (match S with
      | .inl z :: .inr (.inr r) :: S => am_nx (pc + 1) L (.inl z :: .inr (.inr r) :: .inl z :: .inr (.inr r) :: S) ω
      | _ => none) = _ at hs
    split at hs
    · cases hs
    · cases hs
  case ladd =>
    change Nat.beq len 1 = true at hln
    obtain rfl := Nat.eq_of_beq_eq_true hln
    change am_j2 (fun a b => am_wl (a + b)) (pc + 1) L S ω = _ at hs
    obtain ⟨x, y, T, rfl, h2⟩ := am_j2_of hs
    cases h2
  case lmul =>
    change Nat.beq len 1 = true at hln
    obtain rfl := Nat.eq_of_beq_eq_true hln
    change am_j2 (fun a b => am_wl (a * b)) (pc + 1) L S ω = _ at hs
    obtain ⟨x, y, T, rfl, h2⟩ := am_j2_of hs
    cases h2
  case land =>
    change Nat.beq len 1 = true at hln
    obtain rfl := Nat.eq_of_beq_eq_true hln
    change am_j2 am_land (pc + 1) L S ω = _ at hs
    obtain ⟨x, y, T, rfl, h2⟩ := am_j2_of hs
    cases h2
  case lor =>
    change Nat.beq len 1 = true at hln
    obtain rfl := Nat.eq_of_beq_eq_true hln
    change am_j2 am_lor (pc + 1) L S ω = _ at hs
    obtain ⟨x, y, T, rfl, h2⟩ := am_j2_of hs
    cases h2
  case ldc idx =>
    change Nat.beq len 2 = true at hln
    obtain rfl := Nat.eq_of_beq_eq_true hln
    change (match am_lk (am_pc.get (am_own mm.1)) idx, am_lk (am_ps.get (am_own mm.1)) idx with
      | some (z, _), _ => am_nx (pc + 2) L (.inl z :: S) ω
      | none, some (k, _) => am_nx (pc + 2) L (.inr (.inr (-3 - (k : Int))) :: S) ω
      | none, none => none) = _ at hs
    split at hs
    · rename_i z w hz
      cases hs
    · rename_i k2 w hz
      cases hs
    · cases hs
  case ldc_w idx =>
    change Nat.beq len 3 = true at hln
    obtain rfl := Nat.eq_of_beq_eq_true hln
    change (match am_lk (am_pc.get (am_own mm.1)) idx with
      | some (z, _) => am_nx (pc + 3) L (.inl z :: S) ω
      | none => none) = _ at hs
    split at hs
    · cases hs
    · cases hs
  case ldc2_w idx =>
    change Nat.beq len 3 = true at hln
    obtain rfl := Nat.eq_of_beq_eq_true hln
    change (match am_lk (am_pl.get (am_own mm.1)) idx with
      | some (z, _) => am_nx (pc + 3) L (.inr (.inl z) :: S) ω
      | none => none) = _ at hs
    split at hs
    · cases hs
    · cases hs
  case dup =>
    change Nat.beq len 1 = true at hln
    obtain rfl := Nat.eq_of_beq_eq_true hln
    change (match S with
      | .inl z :: S => am_nx (pc + 1) L (.inl z :: .inl z :: S) ω
      | .inr (.inr z) :: S => am_nx (pc + 1) L (.inr (.inr z) :: .inr (.inr z) :: S) ω
      | _ => none) = _ at hs
    split at hs
    · cases hs
    · cases hs
    · cases hs
  case pop =>
    change Nat.beq len 1 = true at hln
    obtain rfl := Nat.eq_of_beq_eq_true hln
    change (match S with
      | .inl _ :: S => am_nx (pc + 1) L S ω
      | .inr (.inr _) :: S => am_nx (pc + 1) L S ω
      | _ => none) = _ at hs
    split at hs
    · cases hs
    · cases hs
    · cases hs
  case goto off =>
    change Nat.beq len 3 = true at hln
    obtain rfl := Nat.eq_of_beq_eq_true hln
    change am_jp ((pc : Int) + off) L S ω = _ at hs
    obtain ⟨h1, h2⟩ := am_jp_of hs
    cases h2
  case ifCond c off =>
    change Nat.beq len 3 = true at hln
    obtain rfl := Nat.eq_of_beq_eq_true hln
    change (match S with
      | .inl a :: S => am_br (am_cc c a 0) ((pc : Int) + off) (pc + 3) L S ω
      | _ => none) = _ at hs
    split at hs
    · obtain ⟨h1, h2⟩ := am_br_of hs
      cases h2
    · cases hs
  case if_icmp c off =>
    change Nat.beq len 3 = true at hln
    obtain rfl := Nat.eq_of_beq_eq_true hln
    change (match S with
      | .inl b :: .inl a :: S => am_br (am_cc c a b) ((pc : Int) + off) (pc + 3) L S ω
      | _ => none) = _ at hs
    split at hs
    · obtain ⟨h1, h2⟩ := am_br_of hs
      cases h2
    · cases hs
  case ifnonnull off =>
    change Nat.beq len 3 = true at hln
    obtain rfl := Nat.eq_of_beq_eq_true hln
    change (match S with
      | .inr (.inr r) :: S => am_br (decide (¬ r = -1)) ((pc : Int) + off) (pc + 3) L S ω
      | _ => none) = _ at hs
    split at hs
    · obtain ⟨h1, h2⟩ := am_br_of hs
      cases h2
    · cases hs
  case tableswitch dflt lo hi offs =>
    change (match S with
      | .inl z :: S => (match am_tsw dflt lo hi offs z with
      | some off => am_jp ((pc : Int) + off) L S ω
      | none => none)
      | _ => none) = _ at hs
    split at hs
    · split at hs
      · rename_i off ho
        obtain ⟨h1, h2⟩ := am_jp_of hs
        cases h2
      · cases hs
    · cases hs
  case getfield idx =>
    change Nat.beq len 3 = true at hln
    obtain rfl := Nat.eq_of_beq_eq_true hln
    change am_getf (am_own mm.1) idx (pc + 3) L S ω = _ at hs
    unfold am_getf at hs
    split at hs
    · obtain ⟨h1, h2⟩ := cd_of hs
      cases h2
    · cases hs
  case putfield idx =>
    change Nat.beq len 3 = true at hln
    obtain rfl := Nat.eq_of_beq_eq_true hln
    change am_putf (am_own mm.1) mm.1 idx (pc + 3) L S ω = _ at hs
    unfold am_putf at hs
    split at hs
    · obtain ⟨h1, h2⟩ := cd_of hs
      cases h2
    · obtain ⟨h1, h2⟩ := cd_of hs
      cases h2
    · cases hs
  case arraylength =>
    change Nat.beq len 1 = true at hln
    obtain rfl := Nat.eq_of_beq_eq_true hln
    change (match S with
      | .inr (.inr r) :: S => cond (Nat.beq mm.1 240 && decide (r = -2)) (am_nx (pc + 1) L (.inl (ω.2.2.1 : Int) :: S) ω) (cond (am_ar ω r 100 || am_ar ω r 101) (am_nx (pc + 1) L (.inl (am_len ω r) :: S) ω) none)
      | _ => none) = _ at hs
    split at hs
    · rename_i r T
      cases hr : (Nat.beq mm.1 240 && decide (r = -2)) with
      | true =>
        rw [hr] at hs
        rw [Bool.and_eq_true] at hr
        obtain rfl := of_decide_eq_true hr.2
        cases hs
      | false =>
        rw [hr] at hs
        obtain ⟨h1, h2⟩ := cd_of (show cond (am_ar ω r 100 || am_ar ω r 101) (am_nx (pc + 1) L (.inl (am_len ω r) :: T) ω) none = _ from hs)
        cases h2
    · cases hs
  case iaload =>
    change Nat.beq len 1 = true at hln
    obtain rfl := Nat.eq_of_beq_eq_true hln
    change (match S with
      | .inl j :: .inr (.inr r) :: S => cond (Nat.beq mm.1 240 && decide (r = -2)) (cond (decide (0 ≤ j) && decide (j < (ω.2.2.1 : Int))) (am_nx (pc + 1) L (.inl (ω.2.2.2 j.toNat) :: S) ω) none) (cond (am_in ω r 100 j) (am_nx (pc + 1) L (.inl (am_get ω r.toNat j.toNat) :: S) ω) none)
      | _ => none) = _ at hs
    split at hs
    · rename_i j r T
      cases hr : (Nat.beq mm.1 240 && decide (r = -2)) with
      | true =>
        rw [hr] at hs
        rw [Bool.and_eq_true] at hr
        obtain rfl := of_decide_eq_true hr.2
        obtain ⟨h1, h2⟩ := cd_of (show cond (decide (0 ≤ j) && decide (j < (ω.2.2.1 : Int))) (am_nx (pc + 1) L (.inl (ω.2.2.2 j.toNat) :: T) ω) none = _ from hs)
        cases h2
      | false =>
        rw [hr] at hs
        obtain ⟨h1, h2⟩ := cd_of (show cond (am_in ω r 100 j) (am_nx (pc + 1) L (.inl (am_get ω r.toNat j.toNat) :: T) ω) none = _ from hs)
        cases h2
    · cases hs
  case laload =>
    change Nat.beq len 1 = true at hln
    obtain rfl := Nat.eq_of_beq_eq_true hln
    change (match S with
      | .inl j :: .inr (.inr r) :: S => cond (am_in ω r 101 j) (am_nx (pc + 1) L (.inr (.inl (am_get ω r.toNat j.toNat)) :: S) ω) none
      | _ => none) = _ at hs
    split at hs
    · obtain ⟨h1, h2⟩ := cd_of hs
      cases h2
    · cases hs
  case aaload =>
    change Nat.beq len 1 = true at hln
    obtain rfl := Nat.eq_of_beq_eq_true hln
    change (match S with
      | .inl j :: .inr (.inr r) :: S => cond (am_in ω r 102 j || (am_in ω r 103 j || am_in ω r 104 j)) (am_nx (pc + 1) L (.inr (.inr (am_get ω r.toNat j.toNat)) :: S) ω) none
      | _ => none) = _ at hs
    split at hs
    · obtain ⟨h1, h2⟩ := cd_of hs
      cases h2
    · cases hs
  case iastore =>
    change Nat.beq len 1 = true at hln
    obtain rfl := Nat.eq_of_beq_eq_true hln
    change (match S with
      | .inl z :: .inl j :: .inr (.inr r) :: S => cond (am_in ω r 100 j) (am_nx (pc + 1) L S (am_put ω r.toNat j.toNat z)) none
      | _ => none) = _ at hs
    split at hs
    · obtain ⟨h1, h2⟩ := cd_of hs
      cases h2
    · cases hs
  case lastore =>
    change Nat.beq len 1 = true at hln
    obtain rfl := Nat.eq_of_beq_eq_true hln
    change (match S with
      | .inr (.inl z) :: .inl j :: .inr (.inr r) :: S => cond (am_in ω r 101 j) (am_nx (pc + 1) L S (am_put ω r.toNat j.toNat z)) none
      | _ => none) = _ at hs
    split at hs
    · obtain ⟨h1, h2⟩ := cd_of hs
      cases h2
    · cases hs
  case aastore =>
    change Nat.beq len 1 = true at hln
    obtain rfl := Nat.eq_of_beq_eq_true hln
    change (match S with
      | .inr (.inr z) :: .inl j :: .inr (.inr r) :: S => cond ((am_in ω r 102 j && am_is ω z (4, 5)) || (am_in ω r 103 j && am_is ω z (2, 3))) (am_nx (pc + 1) L S (am_put ω r.toNat j.toNat z)) none
      | _ => none) = _ at hs
    split at hs
    · obtain ⟨h1, h2⟩ := cd_of hs
      cases h2
    · cases hs
  case new idx =>
    change Nat.beq len 3 = true at hln
    obtain rfl := Nat.eq_of_beq_eq_true hln
    change (match am_lk (am_pn.get (am_own mm.1)) idx with
      | some (ci, _) => cond (decide (ci < 8)) (am_nx (pc + 3) L (.inr (.inr (ω.1.length : Int)) :: S) (am_new ω (ci, am_nf ci) (am_d0 ci))) none
      | none => none) = _ at hs
    split at hs
    · obtain ⟨h1, h2⟩ := cd_of hs
      cases h2
    · cases hs
  case newarray ty =>
    change Nat.beq len 2 = true at hln
    obtain rfl := Nat.eq_of_beq_eq_true hln
    change (match S with
      | .inl n :: S => cond (decide (0 ≤ n) && decide (n ≤ 100000)) (match ty with
      | .int => am_nx (pc + 2) L (.inr (.inr (ω.1.length : Int)) :: S) (am_new ω (100, n.toNat) (fun _ => 0))
      | .long => am_nx (pc + 2) L (.inr (.inr (ω.1.length : Int)) :: S) (am_new ω (101, n.toNat) (fun _ => 0))
      | _ => none) none
      | _ => none) = _ at hs
    split at hs
    · obtain ⟨h1, h2⟩ := cd_of hs
      simp only [Bool.and_eq_true, decide_eq_true_eq] at h1
      split at h2
      · cases h2
      · cases h2
      · cases h2
    · cases hs
  case anewarray idx =>
    change Nat.beq len 3 = true at hln
    obtain rfl := Nat.eq_of_beq_eq_true hln
    change (match am_lk (am_pn.get (am_own mm.1)) idx, S with
      | some (ci, _), .inl n :: S => cond (decide (0 ≤ n) && decide (n ≤ 100000)) (match ci with
      | 4 => am_nx (pc + 3) L (.inr (.inr (ω.1.length : Int)) :: S) (am_new ω (102, n.toNat) (fun _ => -1))
      | 2 => am_nx (pc + 3) L (.inr (.inr (ω.1.length : Int)) :: S) (am_new ω (103, n.toNat) (fun _ => -1))
      | _ => none) none
      | _, _ => none) = _ at hs
    split at hs
    · obtain ⟨h1, h2⟩ := cd_of hs
      simp only [Bool.and_eq_true, decide_eq_true_eq] at h1
      split at h2
      · cases h2
      · cases h2
      · cases h2
    · cases hs
  case multianewarray idx dims =>
    change Nat.beq len 4 = true at hln
    obtain rfl := Nat.eq_of_beq_eq_true hln
    change (match am_lk (am_pn.get (am_own mm.1)) idx, S with
      | some (104, _), .inl k :: .inl n :: S => cond (Nat.beq dims 2 && (decide (0 ≤ n) && (decide (n ≤ 1000) && (decide (0 ≤ k) && decide (k ≤ 100000))))) (am_nx (pc + 4) L (.inr (.inr (ω.1.length : Int)) :: S) (am_newg ω n.toNat k.toNat)) none
      | _, _ => none) = _ at hs
    split at hs
    · obtain ⟨h1, h2⟩ := cd_of hs
      simp only [Bool.and_eq_true, decide_eq_true_eq] at h1
      obtain ⟨g0, g1, g2, g3, g4⟩ := h1
      obtain rfl := Nat.eq_of_beq_eq_true g0
      cases h2
    · cases hs
  case invokevirtual idx =>
    change Nat.beq len 3 = true at hln
    obtain rfl := Nat.eq_of_beq_eq_true hln
    change am_inv 0 mm idx (pc + 3) L S ω = _ at hs
    unfold am_inv at hs
    split at hs
    · rename_i kd b na rk2 wx hpm
      obtain ⟨w, w2, w3, w4⟩ := wx
      split at hs
      all_goals (first | (exfalso; omega) | (exfalso; exact am_slen_no hs) | (exfalso; exact am_schr_no hs) | (exfalso; exact am_acpy_no hs) | (exfalso; cases hs; done) | skip)
      · obtain ⟨as2, S2, m2, e1, e2, e3, e4, e5, e6⟩ := am_call_of hs
        cases e6
        have hb := am_kd_240 (am_own_lt mm.1) hpm (by decide)
        refine ⟨rfl, by rw [e2]; exact hb, by rw [e2]; exact e4, fun C v ω1 S1 hM hg b1 b2 hpu k => aj_callV C hd hpm e2 e1 e3 (e5 rfl) hM hg.1 hg.2.1 hg.2.2 b1 b2 hpu k⟩
    · cases hs
  case invokestatic idx =>
    change Nat.beq len 3 = true at hln
    obtain rfl := Nat.eq_of_beq_eq_true hln
    change am_inv 1 mm idx (pc + 3) L S ω = _ at hs
    unfold am_inv at hs
    split at hs
    · rename_i kd b na rk2 wx hpm
      obtain ⟨w, w2, w3, w4⟩ := wx
      split at hs
      all_goals (first | (exfalso; omega) | (exfalso; exact am_slen_no hs) | (exfalso; exact am_schr_no hs) | (exfalso; exact am_acpy_no hs) | (exfalso; cases hs; done) | skip)
      · obtain ⟨as2, S2, m2, e1, e2, e3, e4, e5, e6⟩ := am_call_of hs
        cases e6
        have hb := am_kd_240 (am_own_lt mm.1) hpm (by decide)
        refine ⟨rfl, by rw [e2]; exact hb, by rw [e2]; exact e4, fun C v ω1 S1 hM hg b1 b2 hpu k => aj_callS C hd hpm e2 e1 e3 hM hg.1 hg.2.1 hg.2.2 b1 b2 hpu k⟩
      · obtain ⟨as2, S2, m2, e1, e2, e3, e4, e5, e6⟩ := am_call_of hs
        cases e6
        have hb := am_kd_240 (am_own_lt mm.1) hpm (by decide)
        refine ⟨rfl, by rw [e2]; exact hb, by rw [e2]; exact e4, fun C v ω1 S1 hM hg b1 b2 hpu k => aj_callSN C hd hpm e2 e1 e3 hM hg.1 hg.2.1 hg.2.2 b1 b2 hpu k⟩
    · cases hs
  case invokespecial idx =>
    change Nat.beq len 3 = true at hln
    obtain rfl := Nat.eq_of_beq_eq_true hln
    change am_inv 2 mm idx (pc + 3) L S ω = _ at hs
    unfold am_inv at hs
    split at hs
    · rename_i kd b na rk2 wx hpm
      obtain ⟨w, w2, w3, w4⟩ := wx
      split at hs
      all_goals (first | (exfalso; omega) | (exfalso; exact am_slen_no hs) | (exfalso; exact am_schr_no hs) | (exfalso; exact am_acpy_no hs) | (exfalso; cases hs; done) | skip)
      · obtain ⟨as2, S2, m2, e1, e2, e3, e4, e5, e6⟩ := am_call_of hs
        cases e6
        have hb := am_kd_240 (am_own_lt mm.1) hpm (by decide)
        refine ⟨rfl, by rw [e2]; exact hb, by rw [e2]; exact e4, fun C v ω1 S1 hM hg b1 b2 hpu k => aj_callI C hd hpm e2 e1 e3 (e5 rfl) hM hg.1 hg.2.1 hg.2.2 b1 b2 hpu k⟩
      · obtain ⟨as2, S2, m2, e1, e2, e3, e4, e5, e6⟩ := am_call_of hs
        cases e6
        have hb := am_kd_240 (am_own_lt mm.1) hpm (by decide)
        refine ⟨rfl, by rw [e2]; exact hb, by rw [e2]; exact e4, fun C v ω1 S1 hM hg b1 b2 hpu k => aj_callIN C hd hpm e2 e1 e3 (e5 rfl) hM hg.1 hg.2.1 hg.2.2 b1 b2 hpu k⟩
      · split at hs
        · obtain ⟨h1, h2⟩ := cd_of hs
          cases h2
        · cases hs
    · cases hs
  case ireturn =>
    change Nat.beq len 1 = true at hln
    obtain rfl := Nat.eq_of_beq_eq_true hln
    change (match S with
      | [.inl z] => cond (am_nar (am_rt mm.1) z) (am_rv (some (.inl z)) ω) none
      | _ => none) = _ at hs
    split at hs
    · obtain ⟨h1, h2⟩ := cd_of hs
      cases h2
    · cases hs
  case lreturn =>
    change Nat.beq len 1 = true at hln
    obtain rfl := Nat.eq_of_beq_eq_true hln
    change (match S with
      | [.inr (.inl z)] => cond (Nat.beq (am_rt mm.1) 2) (am_rv (some (.inr (.inl z))) ω) none
      | _ => none) = _ at hs
    split at hs
    · obtain ⟨h1, h2⟩ := cd_of hs
      cases h2
    · cases hs
  case areturn =>
    change Nat.beq len 1 = true at hln
    obtain rfl := Nat.eq_of_beq_eq_true hln
    change (match S with
      | [.inr (.inr z)] => cond (Nat.beq (am_rt mm.1) 3 && am_is ω z (1, 15)) (am_rv (some (.inr (.inr z))) ω) none
      | _ => none) = _ at hs
    split at hs
    · obtain ⟨h1, h2⟩ := cd_of hs
      cases h2
    · cases hs
  case return_ =>
    change Nat.beq len 1 = true at hln
    obtain rfl := Nat.eq_of_beq_eq_true hln
    change (match S with
      | [] => cond (Nat.beq (am_rt mm.1) 0) (am_rv none ω) none
      | _ => none) = _ at hs
    split at hs
    · obtain ⟨h1, h2⟩ := cd_of hs
      cases h2
    · cases hs
  all_goals (cases hs)
end AS
