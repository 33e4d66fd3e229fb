/-! THE CLAIM OUT OF ONE WALK OF THE LAW'S BODY. Your part is whole_start (and what it stands on); all else here is the same for every law, but numbers. -/
def R_law : String := "FasterToBeLaterLaw"
def lw_P (b : Addr) (xs : List Int32) (args : Array Value) (s : State) : Prop := args = #[.ref b] ∧ s.IntsAt b xs ∧ xs.length ≤ 3072 ∧ (Jvm.Cond.and given_1 narrow_1).before args s = true
def lw_Q (_ : Array Value) (s : State) (o : Outcome) (t : State) : Prop := o = .returned (some (.int 1)) ∧ Framed s o t [] 600000 7302250
def lw_Z (below : List Frame) (a : Array Value) (s : State) : State → Prop := fun t => ∃ o, t.status = .running ∧ Ended t below o ∧ lw_Q a s o t
/-- the law's own end, with 1 on the stack, nothing written that was there before, its room as the claim has it -/
theorem lw_ret {p : Program} {l : Launch} {e : Env} {s : State} {m : MethodId} {below : List Frame} {meth : Method} {c : Code} {b : Nat} (hx : p.tables.exec = Jvm.exec) (hb : c.code = code) (hr : meth.sig.returnType = ret) (hlocks : meth.locks = false) {pc : Nat} {H : Heap} {ls : Array Slot} (hdg : decode code pc = .ok (.ireturn, 1)) : W p l e room_1 s m #[Value.ref b] below meth c H [] 600000 7302250 (lw_Z below #[Value.ref b] s) (F0 m pc ls [.int 1]) := by
  intro T hT X
  obtain ⟨fs, hret, hrun, hended, hW, hframe⟩ := X.leave (v := some (.int 1)) (hlocks := hlocks) (fun h => by rw [hr] at h; cases h)
  have hmeth' : T.vm.method? m = some meth := X.method'
  refine ⟨T.setFrames fs, ?_, .returned (some (.int 1)), hrun, hended, rfl, ⟨_, rfl⟩, hW, hframe⟩
  jvm_step X.here [X.here.top, hx, hb, hdg, hmeth', hr, ret, narrow_b1]
  (try refine ⟨rfl, ?_⟩); (try refine ⟨rfl, ?_⟩)
  first | (intro acts; rw [hret _ acts rfl rfl rfl]) | rw [hret _ _ rfl rfl rfl]
  exact Steps.refl _
/-- what holds at the law's entry: the machine, the code, the tables' words (any of lw_tbl by 'hts w (by decide +kernel)'), the script of L ints xs at the cell b, what the Statement gives of the start (any of its parts by flat_of_before) -/
def lw_At (p : Program) (s : State) (m : MethodId) (meth : Method) (c : Code) (b L : Nat) (xs : Nat → Int32) : Prop :=
  p.tables.exec = Jvm.exec ∧ c.code = code ∧ meth.sig.returnType = ret ∧ c.maxLocals = 4 ∧ s.vm.findClass R_law = some m.cls ∧ (∀ w ∈ lw_tbl, w.before #[Value.ref b] s = true) ∧ va_X b L xs s s.heap ∧ b < s.heap.size ∧ meth.locks = false ∧ (Jvm.Cond.and given_1 narrow_1).before #[Value.ref b] s = true
/-! ===== the law's run out of the abstract machine's ===== -/
/-- what is left: pure -/
def am_Pure : Prop := ∀ (sc : Nat × (Nat → Int)), sc.1 ≤ 3072 → (∀ j, am_R32 (sc.2 j)) → ∃ ω1, am_run (240, 0) 0 ([some (.inr (.inr (-2))), none, none, none], [], ([], fun _ _ => 0, sc)) = some (some (.inl 1), ω1) ∧ ω1.1.length ≤ 600000 ∧ am_sl ω1.1 ≤ 7302250
def br_ix : List Nat := [48, 57, 62, 67, 104, 72]
def br_iy : List Nat := [148, 156, 157, 163, 165, 158]
def br_tm (i : Nat) : Term := .string "FasterToBeLater$Tape" (br_ix.getD i 0)
def br_tn (i : Nat) : Term := .string "FasterToBeLaterModel" (br_iy.getD i 0)
theorem br_ex : ∀ i, i < 6 → Cond.exactly (br_tm i) "java/lang/String" ∈ flatC (Jvm.Cond.and given_1 narrow_1) := by decide +kernel
theorem br_co : ∀ i, i < 6 → Cond.eq (.field (br_tm i) "java/lang/String" "coder" "B") (.int 0) ∈ flatC (Jvm.Cond.and given_1 narrow_1) := by decide +kernel
theorem br_ar : ∀ i, i < 6 → Cond.arrayOf (.field (br_tm i) "java/lang/String" "value" "[B") .byte ∈ flatC (Jvm.Cond.and given_1 narrow_1) := by decide +kernel
theorem br_le : ∀ i, i < 6 → Cond.eq (.length (.field (br_tm i) "java/lang/String" "value" "[B")) (.int (Int32.ofNat (am_lens.getD i 0))) ∈ flatC (Jvm.Cond.and given_1 narrow_1) := by decide +kernel
theorem br_el : ∀ i, i < 6 → ∀ j, j < am_lens.getD i 0 → Cond.eq (.elem (.field (br_tm i) "java/lang/String" "value" "[B") (.int (Int32.ofNat j))) (.int ((am_byts.getD i []).getD j 0)) ∈ flatC (Jvm.Cond.and given_1 narrow_1) := by decide +kernel
theorem br_ne : ∀ i, i < 6 → ∀ j, j < 6 → i ≠ j → (Cond.not (Cond.eq (br_tm i) (br_tm j)) ∈ flatC (Jvm.Cond.and given_1 narrow_1) ∨ Cond.not (Cond.eq (br_tm j) (br_tm i)) ∈ flatC (Jvm.Cond.and given_1 narrow_1)) := by decide +kernel
theorem br_eq : ∀ i, i < 6 → Cond.eq (br_tm i) (br_tn i) ∈ flatC (Jvm.Cond.and given_1 narrow_1) := by decide +kernel
theorem br_st : Cond.eq (.static "java/lang/String" "COMPACT_STRINGS" "Z") (.int 1) ∈ flatC (Jvm.Cond.and given_1 narrow_1) ∧ Cond.isRef (.static "jdk/internal/util/Preconditions" "SIOOBE_FORMATTER" "Ljava/util/function/BiFunction;") ∈ flatC (Jvm.Cond.and given_1 narrow_1) := by decide +kernel
theorem br_ls : Cond.laysStatic "java/lang/String" "COMPACT_STRINGS" "Z" ∈ lw_tbl ∧ Cond.laysStatic "jdk/internal/util/Preconditions" "SIOOBE_FORMATTER" "Ljava/util/function/BiFunction;" ∈ lw_tbl ∧ Cond.initialized "java/lang/String" ∈ lw_tbl ∧ Cond.initialized "jdk/internal/util/Preconditions" ∈ lw_tbl := by decide +kernel
theorem br_ac : Cond.arrayClass .int ∈ lw_tbl ∧ Cond.arrayClass .long ∈ lw_tbl ∧ Cond.arrayOver (.object RX4) ∈ lw_tbl ∧ Cond.arrayOver (.object RX2) ∈ lw_tbl ∧ Cond.arrayOver (.array .int) ∈ lw_tbl := by decide +kernel
def br_oky (o : Nat) (q : Nat × Nat × Nat) : Bool := Nat.beq q.1 999999 || (decide (q.2.1 < 6) && (decide (lw_tbl[q.2.2]? = some (.stringRef (am_cn o) q.1 (am_txs.getD q.2.1 ""))) && ((decide (o = 3) && Nat.beq q.1 (br_ix.getD q.2.1 0)) || (decide (o = 7) && Nat.beq q.1 (br_iy.getD q.2.1 0)))))
theorem br_oky_o : ∀ o, o < 12 → am_allb (br_oky o) (am_ps.getImpl o) = true := by decide +kernel
theorem br_arr {s : State} {c : ClassId} {k : Class} {comp : ClassId} {ty : FieldType} (h1 : s.vm.classes[c]? = some k) (h2 : k.kind = .array comp ty) : ArrOfT s c ty := fun n z => ⟨(fun _ h => by cases h), k, h1, comp, h2⟩
theorem br_str {s : State} {adK : Nat → Nat} {b : Nat} (hts : ∀ w ∈ lw_tbl, w.before #[Value.ref b] s = true) (hgv : (Jvm.Cond.and given_1 narrow_1).before #[Value.ref b] s = true) (hev : ∀ i : Nat, i < 6 → (br_tm i).eval #[Value.ref b] s none [] s = some (.ref (adK i))) : ∀ (o idx k w : Nat), o < 12 → am_lk (am_ps.get o) idx = some (k, w) → vk_R (am_cn o) idx (am_txs.getD k "") (adK k) s := by
  intro o idx k w ho hlk
  have h1 := br_oky_o o ho
  rw [am_get_impl] at h1
  have h2 := am_lk_of (P := fun q : Nat × Nat × Nat => q.2.1 < 6 ∧ lw_tbl[q.2.2]? = some (.stringRef (am_cn o) q.1 (am_txs.getD q.2.1 "")) ∧ ((o = 3 ∧ q.1 = br_ix.getD q.2.1 0) ∨ (o = 7 ∧ q.1 = br_iy.getD q.2.1 0))) (am_all_imp (fun q hq => by
    unfold br_oky at hq
    rcases Bool.or_eq_true_iff.mp hq with h | h
    · exact Or.inl (Nat.eq_of_beq_eq_true h)
    · right
      simp only [Bool.and_eq_true, Bool.or_eq_true, decide_eq_true_eq] at h
      refine ⟨h.1, h.2.1, ?_⟩
      rcases h.2.2 with h | h
      · exact Or.inl ⟨h.1, Nat.eq_of_beq_eq_true h.2⟩
      · exact Or.inr ⟨h.1, Nat.eq_of_beq_eq_true h.2⟩) (am_allb_all h1)) hlk
  dsimp only at h2
  obtain ⟨g1, g2, g3⟩ := h2
  refine vk_R.of (A := #[Value.ref b]) (hts _ (List.mem_of_getElem? g2)) ?_
  rcases g3 with ⟨rfl, rfl⟩ | ⟨rfl, rfl⟩
  · exact (Term.string_eval_of_vm (args := #[]) rfl).trans ((Term.string_eval_of_vm (args := #[Value.ref b]) rfl).symm.trans (hev k g1))
  · exact (Term.string_eval_of_vm (args := #[]) rfl).trans ((Term.string_eval_of_vm (args := #[Value.ref b]) rfl).symm.trans (va_eqR (flat_of_before _ hgv _ (br_eq k g1)) (hev k g1)))
theorem br_240 : (am_mt.getImpl 240).1 = 11 ∧ (am_mt.getImpl 240).2.1 = 4 ∧ (am_mt.getImpl 240).2.2.1 = 4 ∧ (am_mt.getImpl 240).2.2.2.1 ≤ 2000 := by decide +kernel
theorem br_code : am_by.getImpl 240 = code := rfl
theorem br_own : am_own 240 = 11 := by unfold am_own; rw [← am_get_impl]; exact br_240.1
theorem br_max : am_max 240 = 4 := by unfold am_max; rw [← am_get_impl]; exact br_240.2.1
theorem br_rt : am_rt 240 = 4 := by unfold am_rt; rw [← am_get_impl]; exact br_240.2.2.1
theorem br_rk : am_rk (240, 0) ≤ 2000 := by unfold am_rk; rw [← am_get_impl]; exact br_240.2.2.2
theorem br_by : am_by.get 240 = code := by rw [← am_get_impl]; exact br_code
theorem whole_of {p : Program} {e : Env} {s : State} {m : MethodId} {below : List Frame} {meth : Method} {c : Code} (hpure : am_Pure) (l : Launch) {b L : Nat} {xs : Nat → Int32} (hL : L ≤ 3072) (C0 : lw_At p s m meth c b L xs) : W p l e room_1 s m #[Value.ref b] below meth c s.heap [] 0 0 (lw_Z below #[Value.ref b] s) (entryFrame m ([Value.ref b] : List Value).toArray 4) := by
  obtain ⟨hx, hb, hr, hml, hown, hts, hX, hbl, hlk, hgv⟩ := C0
  have hs := flat_of_before _ hgv
  let A : Nat → Prop := fun q => s.heap.size ≤ q
  have hA : ∀ a : Nat, a < s.heap.size → ¬ A a := fun a h q => Nat.lt_irrefl _ (Nat.lt_of_lt_of_le h q)
  -- the classes
  have hD : ∀ c : Nat, ∃ D : ClassId × (Nat → Nat), ∀ q, vwCl[c]? = some q → u_Kn s q.1 q.2.1 q.2.2 D.1 D.2 := by
    intro c
    by_cases hc : c < 8
    · obtain ⟨rr, g1, g2, g3, g4, -⟩ := am_cls hc
      obtain ⟨cC, iS, hk⟩ := u_known (ws := lw_tbl) (C := rr.1) (T := rr.2.1) (N := rr.2.2) hts (fun w hw => (List.mem_filter.mp (g4 w hw)).1) (by rw [g3]; exact hts _ (am_ini_c c hc).1)
      refine ⟨(cC, iS), fun q hq => ?_⟩
      cases g1.symm.trans hq
      exact hk
    · refine ⟨(0, fun _ => 0), fun q hq => ?_⟩
      have : vwCl.length ≤ c := by show 8 ≤ c; omega
      rw [List.getElem?_eq_none this] at hq
      cases hq
  obtain ⟨D, hD⟩ := Classical.axiomOfChoice hD
  obtain ⟨ci, ki, coi, i1, i2, i3⟩ := Cond.arrayClass_spec (hts _ br_ac.1)
  obtain ⟨cl, kl, col, j1, j2, j3⟩ := Cond.arrayClass_spec (hts _ br_ac.2.1)
  obtain ⟨cov, cv, kv, v1, v2, v3, v4, v5⟩ := Cond.arrayOver_spec (hts _ br_ac.2.2.1)
  obtain ⟨cos, cs, ks, s1, s2, s3, s4, s5⟩ := Cond.arrayOver_spec (hts _ br_ac.2.2.2.1)
  obtain ⟨coa, ca, ka, a1, a5, a3, a4⟩ := mz_over (hts _ br_ac.2.2.2.2)
  obtain ⟨adK, adV, hvS, hev⟩ := vk_Sof (args := #[Value.ref b]) (s := s) (N := 6) (tm := br_tm) (len := am_lens) (byt := am_byts) (A := A) (by decide) (fun i hi => hs _ (br_ex i hi)) (fun i hi => hs _ (br_co i hi)) (fun i hi => hs _ (br_ar i hi)) (fun i hi => hs _ (br_le i hi)) (fun i hi j hj => hs _ (br_el i hi j hj)) (fun i j hi hj hij => (br_ne i hi j hj hij).imp (hs _) (hs _)) hA
  let G : am_G := ((fun c => (D c).1, fun c => (D c).2), (ci, cl, cv, cs, ca), b, adK, adV)
  let sc : Nat × (Nat → Int) := (L, fun j => (xs j).toInt)
  have hsc : ∀ j, am_R32 (sc.2 j) := fun j => by
    have h1 := (xs j).le_toInt
    have h2 := (xs j).toInt_lt
    exact ⟨h1, h2⟩
  obtain ⟨ω1, hrun, hb1, hb2⟩ := hpure sc hL hsc
  obtain ⟨n, hn⟩ := am_run_iff.mp hrun
  have hK : va_K G.1 vwCl (am_tys G) s := by
    refine ⟨fun c q hq => hD c q hq, fun k q hk => ?_⟩
    match k, hk with
    | 0, hk => cases hk; exact ⟨br_arr i2 i3, i1⟩
    | 1, hk => cases hk; exact ⟨br_arr j2 j3, j1⟩
    | 2, hk => cases hk; exact ⟨br_arr v3 v4, kv, cov, v3, v4, v1, v5⟩
    | 3, hk => cases hk; exact ⟨br_arr s3 s4, ks, cos, s3, s4, s1, s5⟩
    | 4, hk => cases hk; exact ⟨br_arr a3 a4, a5⟩
    | k + 5, hk => cases hk
  have hNw : ∀ w ∈ am_nes, va_Nw w s := fun w hw => by
    have h1 := List.mem_filter.mp hw
    have h2 := h1.2
    cases w <;> first | (exact va_Nw.of (A := #[Value.ref b]) rfl (hts _ h1.1)) | (simp at h2; done)
  have hSt : am_St G A s := ⟨hvS, va_Zof (hts _ br_ls.1) (hts _ br_ls.2.2.1) (va_eqi (hs _ br_st.1)) hA, va_Zqof (hts _ br_ls.2.1) (hts _ br_ls.2.2.2) (hs _ br_st.2) hA, br_str hts hgv hev⟩
  have hXs : va_X b L (fun j => Int32.ofInt (sc.2 j)) s s.heap := by
    have e : (fun j => Int32.ofInt (sc.2 j)) = xs := funext fun j => Int32.ofInt_toInt _
    rw [e]
    exact hX
  have C : am_Cx G (240, 0) A p room_1 s m #[Value.ref b] meth c sc := by
    have hrk := br_rk
    refine ⟨hx, by rw [hb]; exact br_by.symm, by rw [hml]; exact br_max.symm, ?_, fun w hw => hts w (List.mem_filter.mp hw).1, by rw [hr]; exact (am_ty_4 br_rt).symm, hlk, (fun h => absurd h (by decide)), hK, hNw, hSt, ?_, ?_, fun q h => h, ⟨hXs, hA b hbl, hbl⟩, ⟨hts _ br_ac.2.2.1, hts _ br_ac.2.2.2.1, hts _ br_ac.2.2.2.2⟩⟩
    · show s.vm.findClass (am_cn (am_own 240)) = _
      rw [br_own]
      exact hown
    · show am_rk (240, 0) ≤ 2048
      omega
    · show 40 * am_rk (240, 0) ≤ 84000
      omega
  have hl := lv_entry [Value.ref b] (n := 4) (by simp [lg_sl, Value.category])
  rw [lg_entry_eq]
  generalize (lg_sl [Value.ref b] ++ List.replicate (4 - (lg_sl [Value.ref b]).length) Slot.unset).toArray = ls at hl ⊢
  have hF : am_Fr G [] (am_max 240) [some (.inr (.inr (-2))), none, none, none] ls := by
    rw [br_max]
    refine ⟨rfl, hl.1, hl.2.1, fun k v hk => ?_⟩
    match k, hk with
    | 0, hk => cases hk; exact lv_at hl 0 rfl
    | 1, hk => cases hk
    | 2, hk => cases hk
    | 3, hk => cases hk
    | k + 4, hk => cases hk
  have hLk : am_okL 0 [some (.inr (.inr (-2))), none, none, none] := fun k v hk => by
    match k, hk with
    | 0, hk => cases hk; exact ⟨by omega, by omega⟩
    | 1, hk => cases hk
    | 2, hk => cases hk
    | 3, hk => cases hk
    | k + 4, hk => cases hk
  have hRl : am_Rl G A [] ([], fun _ _ => 0, sc) s.heap := by
    refine ⟨rfl, ⟨?_, Nat.lt_of_le_of_lt hL (by omega), hsc⟩, ?_, ?_, ?_⟩
    · intro i q h
      cases h
    · intro k q h
      cases h
    · intro i j p q h
      cases h
    · intro k q h
      cases h
  refine am_ok l n G (240, 0) A p e room_1 s m #[Value.ref b] below meth c _ 0 0 sc [] 0 _ [] ([], fun _ _ => 0, sc) (some (.inl 1)) ω1 C (by decide) hn (by show ω1.1.length ≤ 0 + 600000; omega) (by show am_sl ω1.1 ≤ 0 + 7302250; omega) ?_ [] s.heap [] ls 0 0 hF hLk (fun w hw => by cases hw) hRl ⟨va_S.rf, List.prefix_refl _⟩ rfl rfl rfl
  intro AD H locs ls2 pc cells slots _ hR hV hc hsl _ hrd
  have hd : decode code pc = .ok (.ireturn, 1) := by rw [← br_by]; exact hrd.1
  refine va_forget (fun q hq => hV.1.2.2 q hq) (W.widen (k := 600000) (n := 7302250) (by omega) (by omega) ?_)
  exact lw_ret hx hb hr hlk hd
