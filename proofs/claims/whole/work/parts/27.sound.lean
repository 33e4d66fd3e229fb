/-! ===== a run of the abstract machine is a run of the machine ===== -/
theorem am_args_sl (G : am_G) (AD : List Nat) : ∀ as : List am_V, (lg_sl (as.map (am_mv G AD))).length = (am_spread as).length
  | [] => rfl
  | .inl z :: as => by
    have ih := am_args_sl G AD as
    show (lg_sl (.int (Int32.ofInt z) :: as.map (am_mv G AD))).length = (some (.inl z) :: am_spread as).length
    rw [List.length_cons, ← ih]
    simp [lg_sl, Value.category]
  | .inr (.inl z) :: as => by
    have ih := am_args_sl G AD as
    show (lg_sl (.long (Int64.ofInt z) :: as.map (am_mv G AD))).length = (some (.inr (.inl z)) :: none :: am_spread as).length
    rw [List.length_cons, List.length_cons, ← ih]
    simp [lg_sl, Value.category]
  | .inr (.inr z) :: as => by
    have ih := am_args_sl G AD as
    show (lg_sl (am_mr G AD z :: as.map (am_mv G AD))).length = (some (.inr (.inr z)) :: am_spread as).length
    rw [List.length_cons, ← ih]
    simp [lg_sl, am_cat]
theorem am_args_in (G : am_G) (AD : List Nat) : ∀ (as : List am_V) (i k : Nat) (v : am_V), (am_spread as)[k]? = some (some v) → (i + k, am_mv G AD v) ∈ lv_args i (as.map (am_mv G AD))
  | [], i, k, v, h => by simp [am_spread] at h
  | .inl z :: as, i, k, v, h => by
    have h : (some (.inl z) :: am_spread as)[k]? = some (some v) := h
    show _ ∈ (i, .int (Int32.ofInt z)) :: lv_args (i + 1) (as.map (am_mv G AD))
    cases k with
    | zero =>
      have e : (.inl z : am_V) = v := by simpa using h
      subst e
      exact List.mem_cons_self
    | succ k =>
      rw [List.getElem?_cons_succ] at h
      have := am_args_in G AD as (i + 1) k v h
      rw [show i + (k + 1) = i + 1 + k by omega]
      exact List.mem_cons_of_mem _ this
  | .inr (.inl z) :: as, i, k, v, h => by
    have h : (some (.inr (.inl z)) :: none :: am_spread as)[k]? = some (some v) := h
    show _ ∈ (i, .long (Int64.ofInt z)) :: lv_args (i + 2) (as.map (am_mv G AD))
    match k, h with
    | 0, h =>
      have e : (.inr (.inl z) : am_V) = v := by simpa using h
      subst e
      exact List.mem_cons_self
    | 1, h => simp at h
    | k + 2, h =>
      rw [List.getElem?_cons_succ, List.getElem?_cons_succ] at h
      have := am_args_in G AD as (i + 2) k v h
      rw [show i + (k + 2) = i + 2 + k by omega]
      exact List.mem_cons_of_mem _ this
  | .inr (.inr z) :: as, i, k, v, h => by
    have h : (some (.inr (.inr z)) :: am_spread as)[k]? = some (some v) := h
    have e0 : lv_args i ((.inr (.inr z) :: as : List am_V).map (am_mv G AD)) = (i, am_mr G AD z) :: lv_args (i + 1) (as.map (am_mv G AD)) := by
      show (i, am_mr G AD z) :: lv_args (if (am_mr G AD z).category = 2 then i + 2 else i + 1) _ = _
      rw [am_cat, if_neg (by decide)]
    rw [e0]
    cases k with
    | zero =>
      have e : (.inr (.inr z) : am_V) = v := by simpa using h
      subst e
      exact List.mem_cons_self
    | succ k =>
      rw [List.getElem?_cons_succ] at h
      have := am_args_in G AD as (i + 1) k v h
      rw [show i + (k + 1) = i + 1 + k by omega]
      exact List.mem_cons_of_mem _ this
theorem am_spread_ok {n : Nat} : ∀ {as : List am_V}, am_okS n as → ∀ (k : Nat) (v : am_V), (am_spread as)[k]? = some (some v) → am_okv n v
  | [], _, k, v, h => by simp [am_spread] at h
  | .inl z :: as, ho, k, v, h => by
    have h : (some (.inl z) :: am_spread as)[k]? = some (some v) := h
    cases k with
    | zero => have e : (.inl z : am_V) = v := by simpa using h
              subst e
              exact am_okS_h ho
    | succ k => rw [List.getElem?_cons_succ] at h; exact am_spread_ok (am_okS_t ho) k v h
  | .inr (.inl z) :: as, ho, k, v, h => by
    have h : (some (.inr (.inl z)) :: none :: am_spread as)[k]? = some (some v) := h
    match k, h with
    | 0, h => have e : (.inr (.inl z) : am_V) = v := by simpa using h
              subst e
              exact am_okS_h ho
    | 1, h => simp at h
    | k + 2, h => rw [List.getElem?_cons_succ, List.getElem?_cons_succ] at h; exact am_spread_ok (am_okS_t ho) k v h
  | .inr (.inr z) :: as, ho, k, v, h => by
    have h : (some (.inr (.inr z)) :: am_spread as)[k]? = some (some v) := h
    cases k with
    | zero => have e : (.inr (.inr z) : am_V) = v := by simpa using h
              subst e
              exact am_okS_h ho
    | succ k => rw [List.getElem?_cons_succ] at h; exact am_spread_ok (am_okS_t ho) k v h
theorem am_ent_len {b : Nat} {as : List am_V} (h : (am_spread as).length ≤ am_max b) : (am_ent b as).length = am_max b := by
  unfold am_ent
  rw [List.length_append, List.length_replicate]
  omega
theorem am_ent_at {b k : Nat} {as : List am_V} {v : am_V} (h : (am_ent b as)[k]? = some (some v)) : (am_spread as)[k]? = some (some v) := by
  unfold am_ent at h
  by_cases h1 : k < (am_spread as).length
  · rw [List.getElem?_append_left h1] at h
    exact h
  · rw [List.getElem?_append_right (by omega), List.getElem?_replicate] at h
    split at h
    · cases h
    · cases h
section AQ
variable (G : am_G) (mm : am_M) (A : Nat → Prop) (p : Program) (l : Launch) (e : Env) (R : Room) (s : State) (m : MethodId) (args : Array Value) (below : List Frame) (meth : Method) (c : Code) (Q : State → Prop) (c0 s0 : Nat) (sc : Nat × (Nat → Int)) (AD0 : List Nat)
/-- where the method ends, Q holds -/
def am_RQ (v : Option am_V) (ω1 : am_W) : Prop := ∀ (AD : List Nat) (H : Heap) (locs : List Loc) (ls : Array Slot) (pc cells slots : Nat), am_okS ω1.1.length v.toList → am_Rl G A AD ω1 H → am_VS A s.heap AD0 AD H locs → cells + c0 = ω1.1.length → slots + s0 = am_sl ω1.1 → ω1.2.2 = sc → am_rd mm.1 pc v → W p l e R s m args below meth c H locs cells slots Q (F0 m pc ls (v.toList.map (am_mv G AD)))
end AQ
theorem am_grow (G : am_G) (A : Nat → Prop) (p : Program) (l : Launch) (e : Env) (R : Room) (s : State) (m : MethodId) (args : Array Value) (below : List Frame) (meth : Method) (c : Code) (Q : State → Prop) (c0 s0 : Nat) (sc : Nat × (Nat → Int)) (AD0 : List Nat) : ∀ (n : Nat) (mm : am_M) (pc : Nat) (L : am_L) (S : List am_V) (ω : am_W) (v : Option am_V) (ω1 : am_W), mm.1 ≤ 240 → am n mm pc (L, S, ω) = some (v, ω1) → am_Gw ω ω1 := by
  intro n
  induction n with
  | zero => intro mm pc L S ω v ω1 _ h; cases h
  | succ n ih =>
    intro mm pc L S ω v ω1 hmb h
    unfold am at h
    cases hc : am_code mm.1 pc with
    | none => rw [hc] at h; cases h
    | some q =>
      obtain ⟨i, len⟩ := q
      rw [hc] at h
      dsimp only at h
      cases hs : am_st mm i pc L S ω with
      | none => rw [hs] at h; cases h
      | some a =>
        rw [hs] at h
        rcases a with ⟨pc', L', S', ω'⟩ | ⟨v', ω'⟩ | ⟨m', rk, as, pc', L', S', ω'⟩
        · exact am_Gw_tr (am_step_J (G := G) (A := A) (p := p) (l := l) (e := e) (R := R) (s := s) (m := m) (args := args) (below := below) (meth := meth) (c := c) (Q := Q) (c0 := c0) (s0 := s0) (sc := sc) (AD0 := AD0) hmb hc hs).1 (ih _ _ _ _ _ _ _ hmb h)
        · cases h
          obtain ⟨rfl, -⟩ := am_step_R hmb hc hs
          exact am_Gw_rf _
        · dsimp only at h
          obtain ⟨rfl, hb, -⟩ := am_step_C (G := G) (A := A) (p := p) (l := l) (e := e) (R := R) (s := s) (m := m) (args := args) (below := below) (meth := meth) (c := c) (Q := Q) (c0 := c0) (s0 := s0) (sc := sc) (AD0 := AD0) hmb hc hs
          cases h1 : am n m' 0 (am_ent m'.1 as, [], ω') with
          | none => rw [h1] at h; cases h
          | some q =>
            obtain ⟨v', ω2⟩ := q
            rw [h1] at h
            dsimp only at h
            cases h2 : am_push rk v' S' with
            | none => rw [h2] at h; cases h
            | some S1 =>
              rw [h2] at h
              exact am_Gw_tr (ih _ _ _ _ _ _ _ (by omega) h1) (ih _ _ _ _ _ _ _ hmb h)
/-- what is shown of runs of at most n steps -/
def am_Ok (l : Launch) (n : Nat) : Prop := ∀ (G : am_G) (mm : am_M) (A : Nat → Prop) (p : Program) (e : Env) (R : Room) (s : State) (m : MethodId) (args : Array Value) (below : List Frame) (meth : Method) (c : Code) (Q : State → Prop) (c0 s0 : Nat) (sc : Nat × (Nat → Int)) (AD0 : List Nat) (pc : Nat) (L : am_L) (S : List am_V) (ω : am_W) (v : Option am_V) (ω1 : am_W), am_Cx G mm A p R s m args meth c sc → mm.1 ≤ 240 → am n mm pc (L, S, ω) = some (v, ω1) → ω1.1.length ≤ c0 + R.cells → am_sl ω1.1 ≤ s0 + R.slots → am_RQ G mm A p l e R s m args below meth c Q c0 s0 sc AD0 v ω1 → am_J G mm A p l e R s m args below meth c Q c0 s0 sc AD0 pc L S ω
theorem am_ty_0 {b : Nat} (h : am_rt b = 0) : am_ty b = none := by unfold am_ty; rw [h]; rfl
theorem am_ty_1 {b : Nat} (h : am_rt b = 1) : am_ty b = some .int := by unfold am_ty; rw [h]; rfl
theorem am_ty_2 {b : Nat} (h : am_rt b = 2) : am_ty b = some .long := by unfold am_ty; rw [h]; rfl
theorem am_ty_3 {b : Nat} (h : am_rt b = 3) : am_ty b = some (.object "FasterToBeLater$Planner") := by unfold am_ty; rw [h]; rfl
theorem am_ty_4 {b : Nat} (h : am_rt b = 4) : am_ty b = some .boolean := by unfold am_ty; rw [h]; rfl
/-- a method's contract, out of its run -/
theorem am_met {l : Launch} {n : Nat} (ih : am_Ok l n) {G : am_G} {A : Nat → Prop} {AD : List Nat} {m' : am_M} {as : List am_V} {ω : am_W} {v : Option am_V} {ω1 : am_W} (hb : m'.1 < 240) (hsp : (am_spread as).length ≤ am_max m'.1) (h : am n m' 0 (am_ent m'.1 as, [], ω) = some (v, ω1)) (hlen : AD.length = ω.1.length) (hok : am_okS ω.1.length as) : am_Mt l G A AD m' as ω v ω1 := by
  unfold am_Mt
  obtain ⟨y1, y2, y3, y4, y5⟩ := am_mw hb
  refine va_MetF (cc := am_by.get m'.1) (maxL := am_max m'.1) (ret := am_ty m'.1) y2 rfl ?_
  intro p e s m args below meth c s₁ B hml hv
  obtain ⟨rfl, hPu⟩ := hv
  have hts := atoms_spec (ws := am_wy m'.1) B.pre
  have hown : s.vm.findClass (am_nm.get m'.1).cls = some m.cls := findClass_of_methodNamed B.named
  rw [y4] at hown
  have C : am_Cx G m' A p (headSpec (am_wy m'.1) (am_rm m' ω ω1)).room s m ((as.map (am_mv G AD)).toArray) meth c ω.2.2 := ⟨B.exec, B.bytes, hml, hown, fun w hw => hts w (List.mem_cons_of_mem _ hw), B.returns, B.notSynchronized, (fun hm => by rw [(name_of_methodNamed B.named B.method).1, ← am_get_impl]; exact am_ctor_nm _ hm), hPu.2.1, hPu.2.2.1, hPu.2.2.2.1, Nat.le_refl _, Nat.le_refl _, hPu.2.2.2.2.1, hPu.2.2.2.2.2.1, hPu.2.2.2.2.2.2⟩
  have hgr := am_grow G A p l e (headSpec (am_wy m'.1) (am_rm m' ω ω1)).room s m ((as.map (am_mv G AD)).toArray) below meth c (fun _ => True) 0 0 ω.2.2 AD n m' 0 _ _ _ _ _ (Nat.le_of_lt hb) h
  have hl := lv_entry (as.map (am_mv G AD)) (n := am_max m'.1) (by rw [am_args_sl]; exact hsp)
  rw [lg_entry_eq]
  generalize (lg_sl (as.map (am_mv G AD)) ++ List.replicate (am_max m'.1 - (lg_sl (as.map (am_mv G AD))).length) Slot.unset).toArray = ls at hl ⊢
  have hF : am_Fr G AD (am_max m'.1) (am_ent m'.1 as) ls := ⟨am_ent_len hsp, hl.1, hl.2.1, fun k w hk => hl.2.2 (k, am_mv G AD w) (by
    have := am_args_in G AD as 0 k w (am_ent_at hk)
    rw [Nat.zero_add] at this
    exact this)⟩
  have hL : am_okL ω.1.length (am_ent m'.1 as) := fun k w hk => am_spread_ok hok k w (am_ent_at hk)
  refine ih G m' A p e (headSpec (am_wy m'.1) (am_rm m' ω ω1)).room s m _ below meth c _ ω.1.length (am_sl ω.1) ω.2.2 AD 0 (am_ent m'.1 as) [] ω v ω1 C (Nat.le_of_lt hb) h (by show ω1.1.length ≤ ω.1.length + (ω1.1.length - ω.1.length); omega) (by show am_sl ω1.1 ≤ am_sl ω.1 + (am_sl ω1.1 - am_sl ω.1); omega) ?_ AD s.heap [] ls 0 0 hF hL (fun w hw => by cases hw) hPu.1 ⟨va_S.rf, List.prefix_refl _⟩ (by omega) (by omega) rfl
  intro AD' H locs ls2 pc cells slots hokv hR hV hc hs hsc hrd
  have e1 : cells = ω1.1.length - ω.1.length := by omega
  have e2 : slots = am_sl ω1.1 - am_sl ω.1 := by omega
  subst e1
  subst e2
  obtain ⟨X, hX⟩ := hV.2
  subst hX
  have hq : ∀ t : State, t.heap = H → am_Qc G A AD v ω1 ((as.map (am_mv G AD)).toArray) s (.returned (v.map (am_mv G (AD ++ X)))) t := fun t ht => ⟨⟨X, rfl, by rw [ht]; exact hR, hokv⟩, hV.1.F ht⟩
  have hret : meth.sig.returnType = am_ty m'.1 := B.returns
  have hlk : meth.locks = false := B.notSynchronized
  rcases v with _ | z | z | z
  · obtain ⟨d1, d2⟩ := hrd
    exact W.vret B.exec B.bytes (by rw [hret, am_ty_0 d2]) (fun t ht _ => hq t ht) hV.1.2.2 d1 hlk
  · obtain ⟨d1, d2⟩ := hrd
    match hrt : am_rt m'.1, d2 with
    | 0, d2 => cases d2
    | 1, d2 => exact W.zret (ty := .int) B.exec B.bytes (by rw [hret, am_ty_1 hrt]) rfl (fun t ht _ => hq t ht) hV.1.2.2 d1 hlk
    | 2, d2 => cases d2
    | 3, d2 => cases d2
    | 4, d2 =>
      have hz : z = 0 ∨ z = 1 := by simpa [am_nar] using d2
      refine W.zret (ty := .boolean) B.exec B.bytes (by rw [hret, am_ty_4 hrt]) ?_ (fun t ht _ => hq t ht) hV.1.2.2 d1 hlk
      rcases hz with rfl | rfl <;> rfl
    | k + 5, d2 => cases d2
  · obtain ⟨d1, d2⟩ := hrd
    exact W.lret B.exec B.bytes (by rw [hret, am_ty_2 d2]) (fun t ht _ => hq t ht) hV.1.2.2 d1 hlk
  · obtain ⟨d1, d2, d3⟩ := hrd
    have hq2 := hq
    have hv : am_mv G (AD ++ X) (.inr (.inr z)) = .ref ((AD ++ X).getD z.toNat 0) := am_mr_pos d3
    refine W.aret (v := am_mv G (AD ++ X) (.inr (.inr z))) B.exec B.bytes (by rw [hret, am_ty_3 d2]) (Or.inl ⟨_, rfl⟩) (Or.inr ⟨_, hv⟩) (fun t ht _ => hq t ht) hV.1.2.2 d1 hlk
theorem am_ok (l : Launch) : ∀ n, am_Ok l n := by
  intro n
  induction n with
  | zero =>
    intro G mm A p e R s m args below meth c Q c0 s0 sc AD0 pc L S ω v ω1 _ _ h
    cases h
  | succ n ih =>
    intro G mm A p e R s m args below meth c Q c0 s0 sc AD0 pc L S ω v ω1 C hmb h b1 b2 hq
    unfold am at h
    cases hc : am_code mm.1 pc with
    | none => rw [hc] at h; cases h
    | some q =>
      obtain ⟨i, len⟩ := q
      rw [hc] at h
      dsimp only at h
      cases hs : am_st mm i pc L S ω with
      | none => rw [hs] at h; cases h
      | some a =>
        rw [hs] at h
        rcases a with ⟨pc', L', S', ω'⟩ | ⟨v', ω'⟩ | ⟨m', rk, as, pc', L', S', ω'⟩
        · have hg := am_grow G A p l e R s m args below meth c Q c0 s0 sc AD0 n mm pc' L' S' ω' v ω1 hmb h
          have hj := ih G mm A p e R s m args below meth c Q c0 s0 sc AD0 pc' L' S' ω' v ω1 C hmb h b1 b2 hq
          exact (am_step_J hmb hc hs).2 C (Nat.le_trans hg.1 b1) (Nat.le_trans hg.2.1 b2) hj
        · cases h
          obtain ⟨rfl, rfl, hrd⟩ := am_step_R hmb hc hs
          intro AD H locs ls cells slots hF hL hS hR hV hcc hss hsc
          exact hq AD H locs ls pc cells slots hS hR hV hcc hss hsc hrd
        · dsimp only at h
          obtain ⟨rfl, hb, hsp, hcall⟩ := am_step_C (G := G) (A := A) (p := p) (l := l) (e := e) (R := R) (s := s) (m := m) (args := args) (below := below) (meth := meth) (c := c) (Q := Q) (c0 := c0) (s0 := s0) (sc := sc) (AD0 := AD0) hmb hc hs
          cases h1 : am n m' 0 (am_ent m'.1 as, [], ω') with
          | none => rw [h1] at h; cases h
          | some q =>
            obtain ⟨v', ω2⟩ := q
            rw [h1] at h
            dsimp only at h
            cases h2 : am_push rk v' S' with
            | none => rw [h2] at h; cases h
            | some S1 =>
              rw [h2] at h
              have hg1 := am_grow G A p l e R s m args below meth c Q c0 s0 sc AD0 n m' 0 _ _ _ _ _ (Nat.le_of_lt hb) h1
              have hg2 := am_grow G A p l e R s m args below meth c Q c0 s0 sc AD0 n mm pc' L' S1 ω2 v ω1 hmb h
              have hj := ih G mm A p e R s m args below meth c Q c0 s0 sc AD0 pc' L' S1 ω2 v ω1 C hmb h b1 b2 hq
              exact hcall C v' ω2 S1 (fun AD hlen hok => am_met ih hb hsp h1 hlen hok) hg1 (Nat.le_trans hg2.1 b1) (Nat.le_trans hg2.2.1 b2) h2 hj
