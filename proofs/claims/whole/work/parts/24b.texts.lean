/-! ===== texts: length and charAt of a constant ===== -/
section TS
variable {G : am_G} {A : Nat → Prop} {p : Program} {l : Launch} {e : Env} {R : Room} {s : State} {m : MethodId} {args : Array Value} {below : List Frame} {meth : Method} {c : Code} {H : Heap} {locs : List Loc} {cells slots pc : Nat} {ls : Array Slot} {Q : State → Prop}
def ts_P (G : am_G) (A : Nat → Prop) (U : State) : Prop := vk_S 6 am_lens am_byts G.2.2.2.1 G.2.2.2.2 A U U.heap ∧ va_Z "java/lang/String" "COMPACT_STRINGS" "Z" (.int 1) A U U.heap ∧ va_Zq "jdk/internal/util/Preconditions" "SIOOBE_FORMATTER" "Ljava/util/function/BiFunction;" A U U.heap
theorem ts_P_at (h : ts_P G A s) (hV : va_S A s.heap H locs) {U : State} (hU : U.heap = H) (hW : s.WarmedH U.vm) : ts_P G A U := by
  refine ⟨?_, ?_, ?_⟩
  · rw [hU]
    exact vk_S.moved hW.alike (h.1.kept hV.2.1)
  · rw [hU]
    exact va_Z.moved hW.alike (h.2.1.kept hV.2.1)
  · rw [hU]
    exact va_Zq.moved hW.alike (h.2.2.kept hV.2.1)
def ts_Pc (G : am_G) (A : Nat → Prop) (as : List Value) : Array Value → State → Prop := fun av U => av = as.toArray ∧ ts_P G A U
def ts_Qc (v : Option Value) : Array Value → State → Outcome → State → Prop := fun _ st oc t => oc = .returned v ∧ t.heap = st.heap
theorem ts_blind {as : List Value} : FrameBlind (ts_Pc G A as) := by
  intro a U g mk h
  obtain ⟨h1, h2, h3, h4⟩ := h
  have hv : U.vm.Alike (U.calling g mk a).vm := Vm.Alike.refl U.vm
  exact ⟨h1, vk_S.moved (u := U) (U := U.calling g mk a) hv h2, va_Z.moved (u := U) (U := U.calling g mk a) hv h3, va_Zq.moved (u := U) (U := U.calling g mk a) hv h4⟩
def ts_rm (k : Nat) : Room := { frames := k, cells := 0, slots := 0, locals := 40 * k }
def ts_wy (y : MethodName) (b : ByteArray) (n : Nat) (r : Option FieldType) : List Cond := Cond.code y b n r :: am_wds
def ts_Mt (l : Launch) (G : am_G) (A : Nat → Prop) (y : MethodName) (b : ByteArray) (n : Nat) (r : Option FieldType) (k : Nat) (as : List Value) (v : Option Value) : Prop := Met l y (ts_wy y b n r) (ts_rm k) (ts_Pc G A as) (ts_Qc v) 0 0 A
theorem ts_met {y : MethodName} {b : ByteArray} {n k : Nat} {r : Option FieldType} {as : List Value} {v : Option Value} (hy : plainFor y = true) (hsp : (lg_sl as).length ≤ n)
    (body : ∀ (p : Program) (e : Env) (R : Room) (s : State) (m : MethodId) (args : Array Value) (below : List Frame) (meth : Method) (c : Code) (ls : Array Slot), p.tables.exec = Jvm.exec → c.code = b → c.maxLocals = n → s.vm.findClass y.cls = some m.cls → (∀ w ∈ am_wds, w.before args s = true) → meth.sig.returnType = r → meth.locks = false → ts_P G A s → lv_has ls n (lv_args 0 as) → k ≤ R.frames → 40 * k ≤ R.locals → W p l e R s m args below meth c s.heap [] 0 0 (MQ below (ts_Qc v) args s 0 0 A) (F0 m 0 ls [])) : ts_Mt l G A y b n r k as v := by
  unfold ts_Mt
  refine va_MetF (cc := b) (maxL := n) (ret := r) hy rfl ?_
  intro p e s m args below meth c s₁ B hml hv
  obtain ⟨rfl, hP⟩ := hv
  have hts := atoms_spec (ws := ts_wy y b n r) B.pre
  have hown : s.vm.findClass y.cls = some m.cls := findClass_of_methodNamed B.named
  have hl := lv_entry as (n := n) hsp
  rw [lg_entry_eq]
  generalize (lg_sl as ++ List.replicate (n - (lg_sl as).length) Slot.unset).toArray = ls at hl ⊢
  exact body p e (headSpec (ts_wy y b n r) (ts_rm k)).room s m _ below meth c ls B.exec B.bytes hml hown (fun w hw => hts w (List.mem_cons_of_mem _ hw)) B.returns B.notSynchronized hP hl (Nat.le_refl _) (Nat.le_refl _)
theorem ts_cont {v : Option Value} {st0 rest : List Value} {av : Array Value} (hr : va_Run p l e R s m args below meth c H locs cells slots 0 0 (F0 m pc ls st0) rest (ts_Qc v av) A) (hS : va_S A s.heap H locs)
    (kk : ∀ (locs1 : List Loc), va_S A s.heap H locs1 → W p l e R s m args below meth c H locs1 cells slots Q (F0 m (pc + 3) ls (v.toList ++ rest))) : W p l e R s m args below meth c H locs cells slots Q (F0 m pc ls st0) := by
  intro T hT X
  obtain ⟨v', st₀, t, T', L, h0, X', hL, e1, e2, ⟨hv, hh⟩, st⟩ := hr T hT X
  have hv := Outcome.returned.inj hv
  subst hv
  obtain ⟨t2, a1, b1⟩ := kk (locs ++ L) ⟨hS.1, hS.2.1, fun q hq => (List.mem_append.mp hq).elim (hS.2.2 q) (fun h => hL q h)⟩ T' (by rw [e1, hh, h0]) X'
  exact ⟨t2, st t2 a1, b1⟩
theorem ts_goodW {y : MethodName} {b : ByteArray} {n : Nat} {r : Option FieldType} (h : Cond.code y b n r ∈ am_wds) : GoodIn am_wds (ts_wy y b n r) := fun w hw => by
  rcases List.mem_cons.mp hw with rfl | h2
  · exact ⟨h, Or.inl rfl⟩
  · exact ⟨h2, am_wds_good w h2⟩
/-- a call of an instance method of a text -/
theorem ts_callV {own : String} {cc b : ByteArray} {nL n k i idx : Nat} {y : MethodName} {r : Option FieldType} {as : List Value} {v : Option Value} {st0 rest : List Value} (S : CallFix p m c cc nL s args am_wds own) (hM : ts_Mt l G A y b n r k (.ref (G.2.2.2.1 i) :: as) v) (hi : i < 6) (hy : y.cls = "java/lang/String") (hP : ts_P G A s) (hS : va_S A s.heap H locs)
    (w1 : Cond.code y b n r ∈ am_wds) (w2 : Cond.methodLink own idx y ∈ am_wds) (w3 : Cond.instanceMethod y ∈ am_wds) (w4 : Cond.selects y.cls y y ∈ am_wds) (w5 : Cond.initialized y.cls ∈ am_wds) (hpd : (parseMethodDescriptor y.desc).map (fun d => d.parameters.length) = some as.length) (hn : n ≤ 8) (hf : k + 1 ≤ R.frames) (hl : 40 * k + 40 ≤ R.locals) (hsz : ls.size = nL) (est : st0 = as.reverse ++ .ref (G.2.2.2.1 i) :: rest) (hw : (rest.map fun v => v.category).sum ≤ 8) (hd : decode cc pc = .ok (.invokevirtual idx, 3)) (hc : cells ≤ R.cells ∧ slots ≤ R.slots)
    (kk : ∀ (locs1 : List Loc), va_S A s.heap H locs1 → W p l e R s m args below meth c H locs1 cells slots Q (F0 m (pc + 3) ls (v.toList ++ rest))) : W p l e R s m args below meth c H locs cells slots Q (F0 m pc ls st0) := by
  have hx := S.2.2.2.2
  refine ts_cont (va_runV (As := as) (n := as.length) (C := y.cls) (b := G.2.2.2.1 i) S hM ⟨callB_of as.length hx (ts_goodW w1) rfl rfl rfl (hx _ w5) (hx _ w2) ⟨by rw [hy]; decide, by rw [hy]; decide, hpd⟩ ⟨hf, by show 8 + (n + 11) + 40 * k ≤ _; omega⟩, hx _ w3, hx _ w4⟩ ⟨ts_blind, ?_, fun U hU hW => ⟨rfl, ts_P_at hP hS hU hW⟩⟩ rfl rfl hsz est (by show 2 * 0 + _ ≤ 8; omega) hd ⟨hc.1, hc.2⟩) hS kk
  rw [hy]
  exact vk_recv hP.1 hi hS
/-- a call of a static method -/
theorem ts_callS {own : String} {cc b : ByteArray} {nL n k idx : Nat} {y : MethodName} {r : Option FieldType} {as : List Value} {v : Option Value} {st0 rest : List Value} (S : CallFix p m c cc nL s args am_wds own) (hM : ts_Mt l G A y b n r k as v) (hy : y.cls ≠ "java/lang/invoke/MethodHandle" ∧ y.cls ≠ "java/lang/invoke/VarHandle") (hP : ts_P G A s) (hS : va_S A s.heap H locs)
    (w1 : Cond.code y b n r ∈ am_wds) (w2 : Cond.methodLink own idx y ∈ am_wds) (w3 : Cond.static y ∈ am_wds) (w5 : Cond.initialized y.cls ∈ am_wds) (hpd : (parseMethodDescriptor y.desc).map (fun d => d.parameters.length) = some as.length) (hn : n ≤ 8) (hf : k + 1 ≤ R.frames) (hl : 40 * k + 40 ≤ R.locals) (hsz : ls.size = nL) (est : st0 = as.reverse ++ rest) (hw : (rest.map fun v => v.category).sum ≤ 8) (hd : decode cc pc = .ok (.invokestatic idx, 3)) (hc : cells ≤ R.cells ∧ slots ≤ R.slots)
    (kk : ∀ (locs1 : List Loc), va_S A s.heap H locs1 → W p l e R s m args below meth c H locs1 cells slots Q (F0 m (pc + 3) ls (v.toList ++ rest))) : W p l e R s m args below meth c H locs cells slots Q (F0 m pc ls st0) := by
  have hx := S.2.2.2.2
  exact ts_cont (va_runS (As := as) (n := as.length) S hM ⟨callB_of as.length hx (ts_goodW w1) rfl rfl rfl (hx _ w5) (hx _ w2) ⟨hy.1, hy.2, hpd⟩ ⟨hf, by show 8 + (n + 11) + 40 * k ≤ _; omega⟩, hx _ w3⟩ ⟨ts_blind, fun U hU hW => ⟨rfl, ts_P_at hP hS hU hW⟩⟩ rfl rfl hsz est (by show 2 * 0 + _ ≤ 8; omega) hd ⟨hc.1, hc.2⟩) hS kk
theorem tw_ini : Cond.initialized "java/lang/String" ∈ am_wds ∧ Cond.initialized "java/lang/StringLatin1" ∈ am_wds ∧ Cond.initialized "jdk/internal/util/Preconditions" ∈ am_wds := ⟨am_wds_of (by decide +kernel) rfl, am_wds_of (by decide +kernel) rfl, am_wds_of (by decide +kernel) rfl⟩
theorem tw_code : Cond.code yJ0_length_8abf5 cJ0_length_8abf5 1 (some .int) ∈ am_wds ∧ Cond.code yJ0_coder_7d493 cJ0_coder_7d493 1 (some .byte) ∈ am_wds ∧ Cond.code yJ0_charAt_5068e cJ0_charAt_5068e 2 (some .char) ∈ am_wds ∧ Cond.code yJ0_isLatin1_aae02 cJ0_isLatin1_aae02 1 (some .boolean) ∈ am_wds ∧ Cond.code yJ1_charAt_3b067 cJ1_charAt_3b067 2 (some .char) ∈ am_wds ∧ Cond.code yJ0_checkIndex_df160 cJ0_checkIndex_df160 2 none ∈ am_wds ∧ Cond.code yJ3_checkIndex_8e157 cJ3_checkIndex_8e157 3 (some .int) ∈ am_wds :=
  ⟨am_wds_of (by decide +kernel) rfl, am_wds_of (by decide +kernel) rfl, am_wds_of (by decide +kernel) rfl, am_wds_of (by decide +kernel) rfl, am_wds_of (by decide +kernel) rfl, am_wds_of (by decide +kernel) rfl, am_wds_of (by decide +kernel) rfl⟩
theorem tw_link : Cond.methodLink "java/lang/String" 335 yJ0_coder_7d493 ∈ am_wds ∧ Cond.methodLink "java/lang/String" 492 yJ0_isLatin1_aae02 ∈ am_wds ∧ Cond.methodLink "java/lang/String" 495 yJ1_charAt_3b067 ∈ am_wds ∧ Cond.methodLink "java/lang/StringLatin1" 9 yJ0_checkIndex_df160 ∈ am_wds ∧ Cond.methodLink "java/lang/String" 1059 yJ3_checkIndex_8e157 ∈ am_wds :=
  ⟨am_wds_of (by decide +kernel) rfl, am_wds_of (by decide +kernel) rfl, am_wds_of (by decide +kernel) rfl, am_wds_of (by decide +kernel) rfl, am_wds_of (by decide +kernel) rfl⟩
theorem tw_inst : (Cond.instanceMethod yJ0_length_8abf5 ∈ am_wds ∧ Cond.instanceMethod yJ0_coder_7d493 ∈ am_wds ∧ Cond.instanceMethod yJ0_charAt_5068e ∈ am_wds ∧ Cond.instanceMethod yJ0_isLatin1_aae02 ∈ am_wds) ∧ (Cond.static yJ1_charAt_3b067 ∈ am_wds ∧ Cond.static yJ0_checkIndex_df160 ∈ am_wds ∧ Cond.static yJ3_checkIndex_8e157 ∈ am_wds) :=
  ⟨⟨am_wds_of (by decide +kernel) rfl, am_wds_of (by decide +kernel) rfl, am_wds_of (by decide +kernel) rfl, am_wds_of (by decide +kernel) rfl⟩, am_wds_of (by decide +kernel) rfl, am_wds_of (by decide +kernel) rfl, am_wds_of (by decide +kernel) rfl⟩
theorem tw_sel : Cond.selects "java/lang/String" yJ0_length_8abf5 yJ0_length_8abf5 ∈ am_wds ∧ Cond.selects "java/lang/String" yJ0_coder_7d493 yJ0_coder_7d493 ∈ am_wds ∧ Cond.selects "java/lang/String" yJ0_charAt_5068e yJ0_charAt_5068e ∈ am_wds ∧ Cond.selects "java/lang/String" yJ0_isLatin1_aae02 yJ0_isLatin1_aae02 ∈ am_wds :=
  ⟨am_wds_of (by decide +kernel) rfl, am_wds_of (by decide +kernel) rfl, am_wds_of (by decide +kernel) rfl, am_wds_of (by decide +kernel) rfl⟩
theorem tw_fld : Cond.fieldLink "java/lang/String" 38 "java/lang/String" "COMPACT_STRINGS" "Z" ∈ am_wds ∧ Cond.fieldLink "java/lang/String" 15 "java/lang/String" "coder" "B" ∈ am_wds ∧ Cond.fieldLink "java/lang/String" 9 "java/lang/String" "value" "[B" ∈ am_wds ∧ Cond.fieldLink "java/lang/String" 1053 "jdk/internal/util/Preconditions" "SIOOBE_FORMATTER" "Ljava/util/function/BiFunction;" ∈ am_wds :=
  ⟨am_wds_of (by decide +kernel) rfl, am_wds_of (by decide +kernel) rfl, am_wds_of (by decide +kernel) rfl, am_wds_of (by decide +kernel) rfl⟩
theorem td_coder : decode cJ0_coder_7d493 0 = .ok (.getstatic 38, 3) ∧ decode cJ0_coder_7d493 3 = .ok (.ifCond .eq 10, 3) ∧ decode cJ0_coder_7d493 6 = .ok (.aload_n 0, 1) ∧ decode cJ0_coder_7d493 7 = .ok (.getfield 15, 3) ∧ decode cJ0_coder_7d493 10 = .ok (.goto 4, 3) ∧ decode cJ0_coder_7d493 14 = .ok (.ireturn, 1) := by decide +kernel
theorem td_lat : decode cJ0_isLatin1_aae02 0 = .ok (.getstatic 38, 3) ∧ decode cJ0_isLatin1_aae02 3 = .ok (.ifCond .eq 14, 3) ∧ decode cJ0_isLatin1_aae02 6 = .ok (.aload_n 0, 1) ∧ decode cJ0_isLatin1_aae02 7 = .ok (.getfield 15, 3) ∧ decode cJ0_isLatin1_aae02 10 = .ok (.ifCond .ne 7, 3) ∧ decode cJ0_isLatin1_aae02 13 = .ok (.iconst 1, 1) ∧ decode cJ0_isLatin1_aae02 14 = .ok (.goto 4, 3) ∧ decode cJ0_isLatin1_aae02 18 = .ok (.ireturn, 1) := by decide +kernel
theorem td_len : decode cJ0_length_8abf5 0 = .ok (.aload_n 0, 1) ∧ decode cJ0_length_8abf5 1 = .ok (.getfield 9, 3) ∧ decode cJ0_length_8abf5 4 = .ok (.arraylength, 1) ∧ decode cJ0_length_8abf5 5 = .ok (.aload_n 0, 1) ∧ decode cJ0_length_8abf5 6 = .ok (.invokevirtual 335, 3) ∧ decode cJ0_length_8abf5 9 = .ok (.ishr, 1) ∧ decode cJ0_length_8abf5 10 = .ok (.ireturn, 1) := by decide +kernel
theorem td_chr : decode cJ0_charAt_5068e 0 = .ok (.aload_n 0, 1) ∧ decode cJ0_charAt_5068e 1 = .ok (.invokevirtual 492, 3) ∧ decode cJ0_charAt_5068e 4 = .ok (.ifCond .eq 12, 3) ∧ decode cJ0_charAt_5068e 7 = .ok (.aload_n 0, 1) ∧ decode cJ0_charAt_5068e 8 = .ok (.getfield 9, 3) ∧ decode cJ0_charAt_5068e 11 = .ok (.iload_n 1, 1) ∧ decode cJ0_charAt_5068e 12 = .ok (.invokestatic 495, 3) ∧ decode cJ0_charAt_5068e 15 = .ok (.ireturn, 1) := by decide +kernel
theorem td_lch : decode cJ1_charAt_3b067 0 = .ok (.iload_n 1, 1) ∧ decode cJ1_charAt_3b067 1 = .ok (.aload_n 0, 1) ∧ decode cJ1_charAt_3b067 2 = .ok (.arraylength, 1) ∧ decode cJ1_charAt_3b067 3 = .ok (.invokestatic 9, 3) ∧ decode cJ1_charAt_3b067 6 = .ok (.aload_n 0, 1) ∧ decode cJ1_charAt_3b067 7 = .ok (.iload_n 1, 1) ∧ decode cJ1_charAt_3b067 8 = .ok (.baload, 1) ∧ decode cJ1_charAt_3b067 9 = .ok (.sipush 255, 3) ∧ decode cJ1_charAt_3b067 12 = .ok (.iand, 1) ∧ decode cJ1_charAt_3b067 13 = .ok (.i2c, 1) ∧ decode cJ1_charAt_3b067 14 = .ok (.ireturn, 1) := by decide +kernel
theorem td_chk : decode cJ0_checkIndex_df160 0 = .ok (.iload_n 0, 1) ∧ decode cJ0_checkIndex_df160 1 = .ok (.iload_n 1, 1) ∧ decode cJ0_checkIndex_df160 2 = .ok (.getstatic 1053, 3) ∧ decode cJ0_checkIndex_df160 5 = .ok (.invokestatic 1059, 3) ∧ decode cJ0_checkIndex_df160 8 = .ok (.pop, 1) ∧ decode cJ0_checkIndex_df160 9 = .ok (.return_, 1) := by decide +kernel
theorem td_pre : decode cJ3_checkIndex_8e157 0 = .ok (.iload_n 0, 1) ∧ decode cJ3_checkIndex_8e157 1 = .ok (.ifCond .lt 8, 3) ∧ decode cJ3_checkIndex_8e157 4 = .ok (.iload_n 0, 1) ∧ decode cJ3_checkIndex_8e157 5 = .ok (.iload_n 1, 1) ∧ decode cJ3_checkIndex_8e157 6 = .ok (.if_icmp .lt 10, 3) ∧ decode cJ3_checkIndex_8e157 16 = .ok (.iload_n 0, 1) ∧ decode cJ3_checkIndex_8e157 17 = .ok (.ireturn, 1) := by decide +kernel
theorem ts_coder (i : Nat) (hi : i < 6) : ts_Mt l G A yJ0_coder_7d493 cJ0_coder_7d493 1 (some .byte) 0 [.ref (G.2.2.2.1 i)] (some (.int 0)) := by
  refine ts_met rfl (by simp [lg_sl, Value.category]) ?_
  intro p e R s m args below meth c ls hx hb hml hown hws hret hlk hP hl hf hlo
  obtain ⟨d0, d3, d6, d7, d10, d14⟩ := td_coder
  refine va_gets hx hb hP.2.1 va_S.rf hown (hws _ tw_fld.1) (fun x h => h) d0 ?_
  refine lv_if_eq hx hb d3 (tgt := 13) rfl (fun q => absurd q (by decide)) (fun _ => ?_)
  refine lv_aload_n hx hb d6 rfl (lv_at hl 0 rfl) ?_
  refine vk_getf hx hb (hP.1.1 i hi).2.1 va_S.rf hown (hws _ tw_fld.2.1) (fun x h => h) d7 ?_
  refine lv_goto hx hb d10 (tgt := 14) rfl ?_
  exact W.zret (ty := .byte) hx hb (by rw [hret]) rfl (fun t ht _ => ⟨rfl, ht⟩) (va_S.rf (A := A) (H0 := s.heap)).2.2 d14 hlk
theorem ts_lat (i : Nat) (hi : i < 6) : ts_Mt l G A yJ0_isLatin1_aae02 cJ0_isLatin1_aae02 1 (some .boolean) 0 [.ref (G.2.2.2.1 i)] (some (.int 1)) := by
  refine ts_met rfl (by simp [lg_sl, Value.category]) ?_
  intro p e R s m args below meth c ls hx hb hml hown hws hret hlk hP hl hf hlo
  obtain ⟨d0, d3, d6, d7, d10, d13, d14, d18⟩ := td_lat
  refine va_gets hx hb hP.2.1 va_S.rf hown (hws _ tw_fld.1) (fun x h => h) d0 ?_
  refine lv_if_eq hx hb d3 (tgt := 17) rfl (fun q => absurd q (by decide)) (fun _ => ?_)
  refine lv_aload_n hx hb d6 rfl (lv_at hl 0 rfl) ?_
  refine vk_getf hx hb (hP.1.1 i hi).2.1 va_S.rf hown (hws _ tw_fld.2.1) (fun x h => h) d7 ?_
  refine lv_if_ne hx hb d10 (tgt := 17) rfl (fun q => absurd rfl q) (fun _ => ?_)
  refine lv_iconst hx hb d13 (v := 1) rfl ?_
  refine lv_goto hx hb d14 (tgt := 18) rfl ?_
  exact W.zret (ty := .boolean) hx hb (by rw [hret]) rfl (fun t ht _ => ⟨rfl, ht⟩) (va_S.rf (A := A) (H0 := s.heap)).2.2 d18 hlk
theorem ts_pre {i n : Int32} {f : Value} (hf0 : f = .null ∨ ∃ t, f = .ref t) (h0 : ¬ i < 0) (h1 : i < n) : ts_Mt l G A yJ3_checkIndex_8e157 cJ3_checkIndex_8e157 3 (some .int) 0 [.int i, .int n, f] (some (.int i)) := by
  have hsp : (lg_sl [.int i, .int n, f]).length ≤ 3 := by rcases hf0 with rfl | ⟨t, rfl⟩ <;> simp [lg_sl, Value.category]
  refine ts_met rfl hsp ?_
  intro p e R s m args below meth c ls hx hb hml hown hws hret hlk hP hl hf hlo
  obtain ⟨d0, d1, d4, d5, d6, d16, d17⟩ := td_pre
  refine lv_iload_n hx hb d0 rfl (lv_at hl 0 rfl) ?_
  refine lv_if_lt hx hb d1 (tgt := 9) rfl (fun q => absurd q h0) (fun _ => ?_)
  refine lv_iload_n hx hb d4 rfl (lv_at hl 0 rfl) ?_
  refine lv_iload_n hx hb d5 rfl (lv_at hl 1 rfl) ?_
  refine lv_icmp_lt hx hb d6 (tgt := 16) rfl (fun _ => ?_) (fun q => absurd h1 q)
  refine lv_iload_n hx hb d16 rfl (lv_at hl 0 rfl) ?_
  exact W.zret (ty := .int) hx hb (by rw [hret]) rfl (fun t ht _ => ⟨rfl, ht⟩) (va_S.rf (A := A) (H0 := s.heap)).2.2 d17 hlk
theorem ts_chk {i n : Int32} (h0 : ¬ i < 0) (h1 : i < n) : ts_Mt l G A yJ0_checkIndex_df160 cJ0_checkIndex_df160 2 none 1 [.int i, .int n] none := by
  refine ts_met rfl (by simp [lg_sl, Value.category]) ?_
  intro p e R s m args below meth c ls hx hb hml hown hws hret hlk hP hl hf hlo
  obtain ⟨d0, d1, d2, d5, d8, d9⟩ := td_chk
  refine lv_iload_n hx hb d0 rfl (lv_at hl 0 rfl) ?_
  refine lv_iload_n hx hb d1 rfl (lv_at hl 1 rfl) ?_
  have go : ∀ f : Value, (f = .null ∨ ∃ t, f = .ref t) → va_Z "jdk/internal/util/Preconditions" "SIOOBE_FORMATTER" "Ljava/util/function/BiFunction;" f A s s.heap → W p l e R s m args below meth c s.heap [] 0 0 (MQ below (ts_Qc none) args s 0 0 A) (F0 m 2 ls [.int n, .int i]) := by
    intro f hf2 hZ
    refine va_gets hx hb hZ va_S.rf hown (hws _ tw_fld.2.2.2) (fun x h => h) d2 ?_
    refine ts_callS (G := G) ⟨hx, hb, hml, hown, hws⟩ (ts_pre hf2 h0 h1) ⟨by decide, by decide⟩ hP va_S.rf tw_code.2.2.2.2.2.2 tw_link.2.2.2.2 tw_inst.2.2.2 tw_ini.2.2 (show _ = some 3 from by decide +kernel) (by omega) (by omega) (by omega) hl.1 rfl (by decide) d5 ⟨by omega, by omega⟩ (fun locs1 hS1 => ?_)
    refine lv_pop hx hb d8 rfl ?_
    exact W.vret hx hb (by rw [hret]) (fun t ht _ => ⟨rfl, ht⟩) hS1.2.2 d9 hlk
  rcases hP.2.2 with hZ | ⟨t, hZ⟩
  · exact go _ (Or.inl rfl) hZ
  · exact go _ (Or.inr ⟨t, rfl⟩) hZ
theorem ts_lch {i k : Nat} {v : Int32} (hi : i < 6) (hk : k < am_lens.getD i 0) (hv : (((am_byts.getD i []).getD k 0 &&& 255).toUInt32 % 65536).toInt32 = v) (hv2 : narrow .char (.int v) = .int v) : ts_Mt l G A yJ1_charAt_3b067 cJ1_charAt_3b067 2 (some .char) 2 [.ref (G.2.2.2.2 i), .int (Int32.ofNat k)] (some (.int v)) := by
  have hl7 : ∀ i, i < 6 → am_lens.getD i 0 ≤ 7 := by decide
  have hk7 := hl7 i hi
  have e1 : (Int32.ofNat k).toNatClampNeg = k := Int32.toNatClampNeg_ofNat_of_lt (by omega)
  have hno : ¬ Int32.ofNat k < 0 := by
    have : ∀ k, k < 7 → ¬ Int32.ofNat k < 0 := by decide
    exact this k (by omega)
  have hlt : Int32.ofNat k < Int32.ofNat (am_lens.getD i 0) := by
    have : ∀ n, n < 8 → ∀ k, k < n → Int32.ofNat k < Int32.ofNat n := by decide
    exact this _ (by omega) k hk
  refine ts_met rfl (by simp [lg_sl, Value.category]) ?_
  intro p e R s m args below meth c ls hx hb hml hown hws hret hlk hP hl hf hlo
  obtain ⟨d0, d1, d2, d3, d6, d7, d8, d9, d12, d13, d14⟩ := td_lch
  refine lv_iload_n hx hb d0 rfl (lv_at hl 1 rfl) ?_
  refine lv_aload_n hx hb d1 rfl (lv_at hl 0 rfl) ?_
  refine va_tlen hx hb (hP.1.1 i hi).2.2.2 va_S.rf rfl d2 ?_
  refine ts_callS (G := G) ⟨hx, hb, hml, hown, hws⟩ (ts_chk hno hlt) ⟨by decide, by decide⟩ hP va_S.rf tw_code.2.2.2.2.2.1 tw_link.2.2.2.1 tw_inst.2.2.1 tw_ini.1 (show _ = some 2 from by decide +kernel) (by omega) (by omega) (by omega) hl.1 rfl (by decide) d3 ⟨by omega, by omega⟩ (fun locs1 hS1 => ?_)
  refine lv_aload_n hx hb d6 rfl (lv_at hl 0 rfl) ?_
  refine lv_iload_n hx hb d7 rfl (lv_at hl 1 rfl) ?_
  refine va_tb hx hb (hP.1.1 i hi).2.2.2 hS1 (i := Int32.ofNat k) ?_ (v := .int ((am_byts.getD i []).getD k 0)) (by rw [e1]) d8 ?_
  · rintro (q | q)
    · exact hno q
    · rw [e1] at q
      omega
  refine lv_sipush hx hb d9 (v := 255) rfl ?_
  refine lv_iand hx hb d12 ?_
  refine lv_i2c hx hb d13 hv ?_
  exact W.zret (ty := .char) hx hb (by rw [hret]) hv2 (fun t ht _ => ⟨rfl, ht⟩) hS1.2.2 d14 hlk
theorem ts_chr {i k : Nat} {v : Int32} (hi : i < 6) (hk : k < am_lens.getD i 0) (hv : (((am_byts.getD i []).getD k 0 &&& 255).toUInt32 % 65536).toInt32 = v) (hv2 : narrow .char (.int v) = .int v) : ts_Mt l G A yJ0_charAt_5068e cJ0_charAt_5068e 2 (some .char) 3 [.ref (G.2.2.2.1 i), .int (Int32.ofNat k)] (some (.int v)) := by
  refine ts_met rfl (by simp [lg_sl, Value.category]) ?_
  intro p e R s m args below meth c ls hx hb hml hown hws hret hlk hP hl hf hlo
  obtain ⟨d0, d1, d4, d7, d8, d11, d12, d15⟩ := td_chr
  refine lv_aload_n hx hb d0 rfl (lv_at hl 0 rfl) ?_
  refine ts_callV (G := G) (as := []) (rest := []) ⟨hx, hb, hml, hown, hws⟩ (ts_lat i hi) hi rfl hP va_S.rf tw_code.2.2.2.1 tw_link.2.1 tw_inst.1.2.2.2 tw_sel.2.2.2 tw_ini.1 (by decide +kernel) (by omega) (by omega) (by omega) hl.1 rfl (by decide) d1 ⟨by omega, by omega⟩ (fun locs1 hS1 => ?_)
  refine lv_if_eq hx hb d4 (tgt := 16) rfl (fun q => absurd q (by decide)) (fun _ => ?_)
  refine lv_aload_n hx hb d7 rfl (lv_at hl 0 rfl) ?_
  refine vk_getf hx hb (hP.1.1 i hi).2.2.1 hS1 hown (hws _ tw_fld.2.2.1) (fun x h => h) d8 ?_
  refine lv_iload_n hx hb d11 rfl (lv_at hl 1 rfl) ?_
  refine ts_callS (G := G) (rest := []) ⟨hx, hb, hml, hown, hws⟩ (ts_lch hi hk hv hv2) ⟨by decide, by decide⟩ hP hS1 tw_code.2.2.2.2.1 tw_link.2.2.1 tw_inst.2.1 tw_ini.2.1 (show _ = some 2 from by decide +kernel) (by omega) (by omega) (by omega) hl.1 rfl (by decide) d12 ⟨by omega, by omega⟩ (fun locs2 hS2 => ?_)
  exact W.zret (ty := .char) hx hb (by rw [hret]) hv2 (fun t ht _ => ⟨rfl, ht⟩) hS2.2.2 d15 hlk
theorem ts_len {i : Nat} (hi : i < 6) : ts_Mt l G A yJ0_length_8abf5 cJ0_length_8abf5 1 (some .int) 1 [.ref (G.2.2.2.1 i)] (some (.int (Int32.ofNat (am_lens.getD i 0)))) := by
  have hs0 : ∀ i, i < 6 → Int32.ofNat (am_lens.getD i 0) >>> ((0 : Int32) &&& 31) = Int32.ofNat (am_lens.getD i 0) := by decide
  refine ts_met rfl (by simp [lg_sl, Value.category]) ?_
  intro p e R s m args below meth c ls hx hb hml hown hws hret hlk hP hl hf hlo
  obtain ⟨d0, d1, d4, d5, d6, d9, d10⟩ := td_len
  refine lv_aload_n hx hb d0 rfl (lv_at hl 0 rfl) ?_
  refine vk_getf hx hb (hP.1.1 i hi).2.2.1 va_S.rf hown (hws _ tw_fld.2.2.1) (fun x h => h) d1 ?_
  refine va_tlen hx hb (hP.1.1 i hi).2.2.2 va_S.rf rfl d4 ?_
  refine lv_aload_n hx hb d5 rfl (lv_at hl 0 rfl) ?_
  refine ts_callV (G := G) (as := []) (rest := [.int (Int32.ofNat (am_lens.getD i 0))]) ⟨hx, hb, hml, hown, hws⟩ (ts_coder i hi) hi rfl hP va_S.rf tw_code.2.1 tw_link.1 tw_inst.1.2.1 tw_sel.2.1 tw_ini.1 (by decide +kernel) (by omega) (by omega) (by omega) hl.1 rfl (by simp [Value.category]) d6 ⟨by omega, by omega⟩ (fun locs1 hS1 => ?_)
  refine lv_ishr hx hb d9 ?_
  rw [hs0 i hi]
  exact W.zret (ty := .int) hx hb (by rw [hret]) rfl (fun t ht _ => ⟨rfl, ht⟩) hS1.2.2 d10 hlk
end TS
section TJ
variable {G : am_G} {mm : am_M} {A : Nat → Prop} {p : Program} {l : Launch} {e : Env} {R : Room} {s : State} {m : MethodId} {args : Array Value} {below : List Frame} {meth : Method} {c : Code} {Q : State → Prop} {c0 s0 : Nat} {sc : Nat × (Nat → Int)} {AD0 : List Nat} {pc : Nat} {L : am_L} {S : List am_V} {ω : am_W}
theorem am_mr_txt {G : am_G} {AD : List Nat} {r : Int} (h1 : r ≤ -3) (h2 : -9 < r) : ∃ i : Nat, i < 6 ∧ (-3 - r).toNat = i ∧ am_mr G AD r = .ref (G.2.2.2.1 i) := by
  refine ⟨(-3 - r).toNat, by omega, rfl, ?_⟩
  unfold am_mr
  rw [if_neg (by omega), if_neg (by omega), if_neg (by omega)]
theorem am_txt_len : ∀ i, i < 6 → am_lens.getD i 0 = (am_texts.getD i []).length := by decide
theorem am_txt_chr : ∀ i, i < 6 → ∀ k, k < (am_texts.getD i []).length → (((am_byts.getD i []).getD k 0 &&& 255).toUInt32 % 65536).toInt32 = Int32.ofInt ((am_texts.getD i []).getD k 0) ∧ narrow .char (.int (Int32.ofInt ((am_texts.getD i []).getD k 0))) = .int (Int32.ofInt ((am_texts.getD i []).getD k 0)) ∧ -2147483648 ≤ (am_texts.getD i []).getD k 0 ∧ (am_texts.getD i []).getD k 0 < 2147483648 := by decide +kernel
theorem aj_slen {idx b na rk w w2 w3 w4 : Nat} {r : Int} (C : am_Cx G mm A p R s m args meth c sc) (hd : decode (am_by.get mm.1) pc = .ok (.invokevirtual idx, 3)) (hp : am_lk (am_pm.get (am_own mm.1)) idx = some (8, b, na, rk, w, w2, w3, w4)) (hrk : 4 ≤ am_rk mm) (hws : am_words S ≤ 8) (h1 : r ≤ -3) (h2 : -9 < r) (bc : ω.1.length ≤ c0 + R.cells) (bs : am_sl ω.1 ≤ s0 + R.slots) (kk : am_J G mm A p l e R s m args below meth c Q c0 s0 sc AD0 (pc + 3) L (.inl (((am_texts.getD (-3 - r).toNat []).length : Nat) : Int) :: S) ω) : am_J G mm A p l e R s m args below meth c Q c0 s0 sc AD0 pc L (.inr (.inr r) :: S) ω := by
  intro AD H locs ls cells slots hF hL hS hR hV hc hs hsc
  obtain ⟨hne, hok⟩ := am_okp_at (am_own_lt mm.1) hp
  have hlk : lw_tbl[w]? = some (.methodLink (am_cn (am_own mm.1)) idx yJ0_length_8abf5) := by
    unfold am_okp at hok
    rcases Bool.or_eq_true_iff.mp hok with q | q
    · exact absurd (Nat.eq_of_beq_eq_true q) hne
    · exact of_decide_eq_true q
  have hfrm := C.2.2.2.2.2.2.2.2.2.2.2.1
  have hloc := C.2.2.2.2.2.2.2.2.2.2.2.2.1
  have hst := C.2.2.2.2.2.2.2.2.2.2.1
  obtain ⟨i, hi, ei, er⟩ := am_mr_txt (G := G) (AD := AD) h1 h2
  rw [ei] at kk
  show W p l e R s m args below meth c H locs cells slots Q (F0 m pc ls (am_mr G AD r :: S.map (am_mv G AD)))
  rw [er]
  refine ts_callV (G := G) (as := []) (rest := S.map (am_mv G AD)) (am_fix C) (ts_len hi) hi rfl ⟨hst.1, hst.2.1, hst.2.2.1⟩ hV.1 tw_code.1 (am_wd hlk rfl) tw_inst.1.1 tw_sel.1 tw_ini.1 (by decide +kernel) (by omega) (by omega) (by omega) hF.2.1 rfl (by rw [am_words_S]; exact hws) hd ⟨by omega, by omega⟩ (fun locs1 hS1 => ?_)
  have hln := am_txt_len i hi
  have hl7 : ∀ i, i < 6 → (am_texts.getD i []).length ≤ 7 := by decide
  have hl8 := hl7 i hi
  have k2 := kk AD H locs1 ls cells slots hF hL (am_okS_c (v := .inl _) (by show am_R32 _; unfold am_R32; omega) (am_okS_t hS)) hR ⟨hS1, hV.2⟩ hc hs hsc
  rw [hln]
  exact k2
theorem aj_schr {idx b na rk w w2 w3 w4 : Nat} {r i : Int} (C : am_Cx G mm A p R s m args meth c sc) (hd : decode (am_by.get mm.1) pc = .ok (.invokevirtual idx, 3)) (hp : am_lk (am_pm.get (am_own mm.1)) idx = some (9, b, na, rk, w, w2, w3, w4)) (hrk : 4 ≤ am_rk mm) (hws : am_words S ≤ 8) (h1 : r ≤ -3) (h2 : -9 < r) (h3 : 0 ≤ i) (h4 : i < (((am_texts.getD (-3 - r).toNat []).length : Nat) : Int)) (bc : ω.1.length ≤ c0 + R.cells) (bs : am_sl ω.1 ≤ s0 + R.slots) (kk : am_J G mm A p l e R s m args below meth c Q c0 s0 sc AD0 (pc + 3) L (.inl ((am_texts.getD (-3 - r).toNat []).getD i.toNat 0) :: S) ω) : am_J G mm A p l e R s m args below meth c Q c0 s0 sc AD0 pc L (.inl i :: .inr (.inr r) :: S) ω := by
  intro AD H locs ls cells slots hF hL hS hR hV hc hs hsc
  obtain ⟨hne, hok⟩ := am_okp_at (am_own_lt mm.1) hp
  have hlk : lw_tbl[w]? = some (.methodLink (am_cn (am_own mm.1)) idx yJ0_charAt_5068e) := by
    unfold am_okp at hok
    rcases Bool.or_eq_true_iff.mp hok with q | q
    · exact absurd (Nat.eq_of_beq_eq_true q) hne
    · exact of_decide_eq_true q
  have hfrm := C.2.2.2.2.2.2.2.2.2.2.2.1
  have hloc := C.2.2.2.2.2.2.2.2.2.2.2.2.1
  have hst := C.2.2.2.2.2.2.2.2.2.2.1
  obtain ⟨j, hj, ej, er⟩ := am_mr_txt (G := G) (AD := AD) h1 h2
  rw [ej] at kk h4
  obtain ⟨k, rfl⟩ : ∃ k : Nat, i = k := ⟨i.toNat, by omega⟩
  have hk : k < (am_texts.getD j []).length := by omega
  obtain ⟨t1, t2, t3, t4⟩ := am_txt_chr j hj k hk
  show W p l e R s m args below meth c H locs cells slots Q (F0 m pc ls (.int (Int32.ofInt (k : Int)) :: am_mr G AD r :: S.map (am_mv G AD)))
  rw [er]
  refine ts_callV (G := G) (as := [.int (Int32.ofNat k)]) (rest := S.map (am_mv G AD)) (am_fix C) (ts_chr hj (by rw [am_txt_len j hj]; exact hk) t1 t2) hj rfl ⟨hst.1, hst.2.1, hst.2.2.1⟩ hV.1 tw_code.2.2.1 (am_wd hlk rfl) tw_inst.1.2.2.1 tw_sel.2.2.1 tw_ini.1 (show _ = some 1 from by decide +kernel) (by omega) (by omega) (by omega) hF.2.1 ?_ (by rw [am_words_S]; exact hws) hd ⟨by omega, by omega⟩ (fun locs1 hS1 => ?_)
  · rfl
  · exact kk AD H locs1 ls cells slots hF hL (am_okS_c (v := .inl _) (by show am_R32 _; unfold am_R32; exact ⟨t3, t4⟩) (am_okS_t (am_okS_t hS))) hR ⟨hS1, hV.2⟩ hc hs hsc
end TJ
