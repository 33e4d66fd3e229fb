/-! ===== arraycopy, Object.<init>, calls ===== -/
theorem am_okp_at {o idx kd b na rk w w2 w3 w4 : Nat} (ho : o < 12) (h : am_lk (am_pm.get o) idx = some (kd, b, na, rk, w, w2, w3, w4)) : ¬ idx = 999999 ∧ am_okp o (idx, kd, b, na, rk, w, w2, w3, w4) = true := by
  have h1 : am_all (fun q : Nat × Nat × Nat × Nat × Nat × Nat × Nat × Nat × Nat => q.1 = 999999 ∨ (¬ q.1 = 999999 ∧ am_okp o q = true)) (am_pm.get o) := am_all_imp (fun q hq => by
    by_cases e : q.1 = 999999
    · exact Or.inl e
    · exact Or.inr ⟨e, hq⟩) (am_allb_all (am_okp_o ho))
  exact am_lk_of h1 h
theorem am_get_impl {α : Type} (t : Lean.RArray α) (k : Nat) : t.getImpl k = t.get k := (congrFun (congrFun (congrFun Lean.RArray.get_eq_getImpl α) t) k).symm
theorem am_cpw : Cond.native arraycopyName ∈ am_wds ∧ Cond.static arraycopyName ∈ am_wds ∧ Cond.initialized "java/lang/System" ∈ am_wds := ⟨am_wds_of (by decide +kernel) rfl, am_wds_of (by decide +kernel) rfl, am_wds_of (by decide +kernel) rfl⟩
theorem am_oiw : Cond.instanceMethod objectInit ∈ am_wds ∧ Cond.code objectInit ⟨#[0xb1]⟩ 1 none ∈ am_wds := ⟨am_wds_of (by decide +kernel) rfl, am_wds_of (by decide +kernel) rfl⟩
section AC
variable {G : am_G} {mm : am_M} {A : Nat → Prop} {p : Program} {l : Launch} {e : Env} {R : Room} {s : State} {m : MethodId} {args : Array Value} {below : List Frame} {meth : Method} {c : Code} {Q : State → Prop} {c0 s0 : Nat} {sc : Nat × (Nat → Int)} {AD0 : List Nat} {pc : Nat} {L : am_L} {S : List am_V} {ω : am_W}
theorem am_okw_cpy {a0 sp a1 dp n kd n0 n1 : Nat} (hw : am_okw ω) (h0 : ω.1[a0]? = some (kd, n0)) (h1 : ω.1[a1]? = some (kd, n1)) (hk : kd = 100 ∨ kd = 101) : am_okw (am_cpy ω a0 sp a1 dp n) := by
  refine ⟨fun i q hq => ?_, hw.2⟩
  obtain ⟨g1, g2⟩ := hw.1 i q hq
  refine ⟨g1, fun j => ?_⟩
  show am_okc ω.1.length q.1 j (if i = a1 ∧ (dp ≤ j ∧ j < dp + n) then ω.2.1 a0 (sp + (j - dp)) else ω.2.1 i j)
  by_cases h : i = a1 ∧ (dp ≤ j ∧ j < dp + n)
  · rw [if_pos h]
    obtain ⟨rfl, -⟩ := h
    have hq : ω.1[i]? = some q := hq
    rw [h1] at hq
    cases hq
    have := (hw.1 a0 _ h0).2 (sp + (j - dp))
    rcases hk with rfl | rfl
    · exact this
    · exact this
  · rw [if_neg h]
    exact g2 j
theorem am_nfw : nativeFrameWords "java/lang/System" "arraycopy" 5 ≤ 21 := by decide +kernel
theorem aj_acpyI {idx b na rk w w2 w3 w4 : Nat} {n dp r1 sp r0 : Int} (C : am_Cx G mm A p R s m args meth c sc) (hd : decode (am_by.get mm.1) pc = .ok (.invokestatic idx, 3)) (hp : am_lk (am_pm.get (am_own mm.1)) idx = some (7, b, na, rk, w, w2, w3, w4)) (hrk : 1 ≤ am_rk mm) (hws : am_words S ≤ 8) (hr0 : am_ar ω r0 100 = true) (hr1 : am_ar ω r1 100 = true) (h1 : 0 ≤ sp) (h2 : 0 ≤ dp) (h3 : 0 ≤ n) (h4 : sp + n ≤ am_len ω r0) (h5 : dp + n ≤ am_len ω r1) (kk : am_J G mm A p l e R s m args below meth c Q c0 s0 sc AD0 (pc + 3) L S (am_cpy ω r0.toNat sp.toNat r1.toNat dp.toNat n.toNat)) : am_J G mm A p l e R s m args below meth c Q c0 s0 sc AD0 pc L (.inl n :: .inl dp :: .inr (.inr r1) :: .inl sp :: .inr (.inr r0) :: S) ω := by
  intro AD H locs ls cells slots hF hL hS hR hV hc hs hsc
  obtain ⟨z0, n0, hq0, e0⟩ := am_ar_of hr0
  obtain ⟨z1, n1, hq1, e1⟩ := am_ar_of hr1
  rw [e0] at h4
  rw [e1] at h5
  have hn : am_R32 n := am_okS_h hS
  have hdp : am_R32 dp := am_okS_h (am_okS_t hS)
  have hsp : am_R32 sp := am_okS_h (am_okS_t (am_okS_t (am_okS_t hS)))
  have hS2 := am_okS_t (am_okS_t (am_okS_t (am_okS_t (am_okS_t hS))))
  obtain ⟨hA, hW, hP, hD⟩ := id hR
  have hat0 := am_ws_at (G := G) (AD := AD) hq0
  have hat1 := am_ws_at (G := G) (AD := AD) hq1
  rw [am_enc_i] at hat0 hat1
  obtain ⟨hne, hok⟩ := am_okp_at (am_own_lt mm.1) hp
  have hlk : lw_tbl[w]? = some (.methodLink (am_cn (am_own mm.1)) idx arraycopyName) := by
    unfold am_okp at hok
    rcases Bool.or_eq_true_iff.mp hok with q | q
    · exact absurd (Nat.eq_of_beq_eq_true q) hne
    · exact of_decide_eq_true q
  show W p l e R s m args below meth c H locs cells slots Q (F0 m pc ls (.int (Int32.ofInt n) :: .int (Int32.ofInt dp) :: am_mr G AD r1 :: .int (Int32.ofInt sp) :: am_mr G AD r0 :: S.map (am_mv G AD)))
  rw [am_mr_pos z0, am_mr_pos z1]
  have hfrm := C.2.2.2.2.2.2.2.2.2.2.2.1
  have hloc := C.2.2.2.2.2.2.2.2.2.2.2.2.1
  refine va_copyi (D := G.1) (cl := vwCl) (tys := am_tys G) (ty := .int) C.1 C.2.1 (by rw [C.2.2.1]; exact hF.2.1.symm) C.2.2.2.1 (C.2.2.2.2.1 _ (am_wd hlk rfl)) (C.2.2.2.2.1 _ am_cpw.1) (C.2.2.2.2.1 _ am_cpw.2.1) (C.2.2.2.2.1 _ am_cpw.2.2) C.2.2.2.2.2.2.2.2.1 hP hD hV.1 r0.toNat r1.toNat 0 0 hat0 hat1 rfl rfl rfl (nu_pos hsp h1) (nu_pos hdp h2) (nu_pos hn h3) (by rw [nu_clamp hsp h1, nu_clamp hn h3]; omega) (by rw [nu_clamp hdp h2, nu_clamp hn h3]; omega) (fun _ _ => rfl) (by omega) (by rw [am_words_S]; have := am_nfw; omega) hd (fun H1 locs1 hP1 hD1 hS1 => ?_)
  rw [nu_clamp hsp h1, nu_clamp hdp h2, nu_clamp hn h3] at hP1 hD1
  have ews : (am_ws G AD ω).set r1.toNat (AD.getD r1.toNat 0, .inl (am_ca G 100, n1, .inl (va_cpy (fun j => Int32.ofInt (ω.2.1 r0.toNat j)) (fun j => Int32.ofInt (ω.2.1 r1.toNat j)) sp.toNat dp.toNat n.toNat))) = am_ws G AD (am_cpy ω r0.toNat sp.toNat r1.toNat dp.toNat n.toNat) := by
    refine am_ws_set (g := fun a k => if a = r1.toNat ∧ (dp.toNat ≤ k ∧ k < dp.toNat + n.toNat) then ω.2.1 r0.toNat (sp.toNat + (k - dp.toNat)) else ω.2.1 a k) hq1 ?_ (fun i hi => ?_)
    · rw [am_enc_i]
      congr 4
      funext j
      unfold va_cpy
      by_cases h : dp.toNat ≤ j ∧ j < dp.toNat + n.toNat
      · rw [if_pos h, if_pos ⟨rfl, h⟩]
      · rw [if_neg h, if_neg (fun q => h q.2)]
    · funext j
      exact if_neg (fun q => hi q.1)
  rw [ews] at hP1 hD1
  exact kk AD H1 locs1 ls cells slots hF hL hS2 ⟨hA, am_okw_cpy hW hq0 hq1 (by decide), hP1, hD1⟩ ⟨hS1, hV.2⟩ hc hs hsc
theorem aj_acpyL {idx b na rk w w2 w3 w4 : Nat} {n dp r1 sp r0 : Int} (C : am_Cx G mm A p R s m args meth c sc) (hd : decode (am_by.get mm.1) pc = .ok (.invokestatic idx, 3)) (hp : am_lk (am_pm.get (am_own mm.1)) idx = some (7, b, na, rk, w, w2, w3, w4)) (hrk : 1 ≤ am_rk mm) (hws : am_words S ≤ 8) (hr0 : am_ar ω r0 101 = true) (hr1 : am_ar ω r1 101 = true) (h1 : 0 ≤ sp) (h2 : 0 ≤ dp) (h3 : 0 ≤ n) (h4 : sp + n ≤ am_len ω r0) (h5 : dp + n ≤ am_len ω r1) (kk : am_J G mm A p l e R s m args below meth c Q c0 s0 sc AD0 (pc + 3) L S (am_cpy ω r0.toNat sp.toNat r1.toNat dp.toNat n.toNat)) : am_J G mm A p l e R s m args below meth c Q c0 s0 sc AD0 pc L (.inl n :: .inl dp :: .inr (.inr r1) :: .inl sp :: .inr (.inr r0) :: S) ω := by
  intro AD H locs ls cells slots hF hL hS hR hV hc hs hsc
  obtain ⟨z0, n0, hq0, e0⟩ := am_ar_of hr0
  obtain ⟨z1, n1, hq1, e1⟩ := am_ar_of hr1
  rw [e0] at h4
  rw [e1] at h5
  have hn : am_R32 n := am_okS_h hS
  have hdp : am_R32 dp := am_okS_h (am_okS_t hS)
  have hsp : am_R32 sp := am_okS_h (am_okS_t (am_okS_t (am_okS_t hS)))
  have hS2 := am_okS_t (am_okS_t (am_okS_t (am_okS_t (am_okS_t hS))))
  obtain ⟨hA, hW, hP, hD⟩ := id hR
  have hat0 := am_ws_at (G := G) (AD := AD) hq0
  have hat1 := am_ws_at (G := G) (AD := AD) hq1
  rw [am_enc_l] at hat0 hat1
  obtain ⟨hne, hok⟩ := am_okp_at (am_own_lt mm.1) hp
  have hlk : lw_tbl[w]? = some (.methodLink (am_cn (am_own mm.1)) idx arraycopyName) := by
    unfold am_okp at hok
    rcases Bool.or_eq_true_iff.mp hok with q | q
    · exact absurd (Nat.eq_of_beq_eq_true q) hne
    · exact of_decide_eq_true q
  show W p l e R s m args below meth c H locs cells slots Q (F0 m pc ls (.int (Int32.ofInt n) :: .int (Int32.ofInt dp) :: am_mr G AD r1 :: .int (Int32.ofInt sp) :: am_mr G AD r0 :: S.map (am_mv G AD)))
  rw [am_mr_pos z0, am_mr_pos z1]
  have hfrm := C.2.2.2.2.2.2.2.2.2.2.2.1
  have hloc := C.2.2.2.2.2.2.2.2.2.2.2.2.1
  refine va_copyl (D := G.1) (cl := vwCl) (tys := am_tys G) (ty := .long) C.1 C.2.1 (by rw [C.2.2.1]; exact hF.2.1.symm) C.2.2.2.1 (C.2.2.2.2.1 _ (am_wd hlk rfl)) (C.2.2.2.2.1 _ am_cpw.1) (C.2.2.2.2.1 _ am_cpw.2.1) (C.2.2.2.2.1 _ am_cpw.2.2) C.2.2.2.2.2.2.2.2.1 hP hD hV.1 r0.toNat r1.toNat 1 1 hat0 hat1 rfl rfl rfl (nu_pos hsp h1) (nu_pos hdp h2) (nu_pos hn h3) (by rw [nu_clamp hsp h1, nu_clamp hn h3]; omega) (by rw [nu_clamp hdp h2, nu_clamp hn h3]; omega) (fun _ _ => rfl) (by omega) (by rw [am_words_S]; have := am_nfw; omega) hd (fun H1 locs1 hP1 hD1 hS1 => ?_)
  rw [nu_clamp hsp h1, nu_clamp hdp h2, nu_clamp hn h3] at hP1 hD1
  have ews : (am_ws G AD ω).set r1.toNat (AD.getD r1.toNat 0, .inl (am_ca G 101, n1, .inr (.inl (va_cpy (fun j => Int64.ofInt (ω.2.1 r0.toNat j)) (fun j => Int64.ofInt (ω.2.1 r1.toNat j)) sp.toNat dp.toNat n.toNat)))) = am_ws G AD (am_cpy ω r0.toNat sp.toNat r1.toNat dp.toNat n.toNat) := by
    refine am_ws_set (g := fun a k => if a = r1.toNat ∧ (dp.toNat ≤ k ∧ k < dp.toNat + n.toNat) then ω.2.1 r0.toNat (sp.toNat + (k - dp.toNat)) else ω.2.1 a k) hq1 ?_ (fun i hi => ?_)
    · rw [am_enc_l]
      congr 5
      funext j
      unfold va_cpy
      by_cases h : dp.toNat ≤ j ∧ j < dp.toNat + n.toNat
      · rw [if_pos h, if_pos ⟨rfl, h⟩]
      · rw [if_neg h, if_neg (fun q => h q.2)]
    · funext j
      exact if_neg (fun q => hi q.1)
  rw [ews] at hP1 hD1
  exact kk AD H1 locs1 ls cells slots hF hL hS2 ⟨hA, am_okw_cpy hW hq0 hq1 (by decide), hP1, hD1⟩ ⟨hS1, hV.2⟩ hc hs hsc
theorem aj_objInit {idx b na rk w w2 w3 w4 : Nat} {r : Int} (C : am_Cx G mm A p R s m args meth c sc) (hd : decode (am_by.get mm.1) pc = .ok (.invokespecial idx, 3)) (hp : am_lk (am_pm.get (am_own mm.1)) idx = some (6, b, na, rk, w, w2, w3, w4)) (hrk : 1 ≤ am_rk mm) (hr : 0 ≤ r) (hws : am_words S ≤ 8) (kk : am_J G mm A p l e R s m args below meth c Q c0 s0 sc AD0 (pc + 3) L S ω) : am_J G mm A p l e R s m args below meth c Q c0 s0 sc AD0 pc L (.inr (.inr r) :: S) ω := by
  intro AD H locs ls cells slots hF hL hS hR hV hc hs hsc
  obtain ⟨hne, hok⟩ := am_okp_at (am_own_lt mm.1) hp
  have hlk : lw_tbl[w]? = some (.methodLink (am_cn (am_own mm.1)) idx objectInit) := by
    unfold am_okp at hok
    rcases Bool.or_eq_true_iff.mp hok with q | q
    · exact absurd (Nat.eq_of_beq_eq_true q) hne
    · exact of_decide_eq_true q
  have hfrm := C.2.2.2.2.2.2.2.2.2.2.2.1
  have hloc := C.2.2.2.2.2.2.2.2.2.2.2.2.1
  show W p l e R s m args below meth c H locs cells slots Q (F0 m pc ls (am_mr G AD r :: S.map (am_mv G AD)))
  rw [am_mr_pos hr]
  refine W.objInit (rest := S.map (am_mv G AD)) C.1 C.2.1 C.2.2.2.1 (C.2.2.2.2.1 _ (am_wd hlk rfl)) (C.2.2.2.2.1 _ am_oiw.1) (C.2.2.2.2.1 _ am_oiw.2) rfl (by rw [C.2.2.1]; exact hF.2.1) rfl hd (by omega) (by rw [am_words_S]; show 2 * 0 + am_words S + 12 ≤ _; omega) ?_
  exact kk AD H locs ls cells slots hF hL (am_okS_t hS) hR hV hc hs hsc
/-- what a method finds at its start -/
def am_Pu (G : am_G) (A : Nat → Prop) (AD : List Nat) (ω : am_W) (U : State) : Prop := am_Rl G A AD ω U.heap ∧ va_K G.1 vwCl (am_tys G) U ∧ (∀ w ∈ am_nes, va_Nw w U) ∧ am_St G A U ∧ (∀ q, U.heap.size ≤ q → A q) ∧ am_Sc G A ω.2.2 U ∧ am_AO U
def am_Pc (G : am_G) (A : Nat → Prop) (AD : List Nat) (as : List am_V) (ω : am_W) : Array Value → State → Prop := fun av U => av = (as.map (am_mv G AD)).toArray ∧ am_Pu G A AD ω U
def am_Qc (G : am_G) (A : Nat → Prop) (AD : List Nat) (v : Option am_V) (ω1 : am_W) : Array Value → State → Outcome → State → Prop := fun _ st oc t => (∃ X, oc = .returned (v.map (am_mv G (AD ++ X))) ∧ am_Rl G A (AD ++ X) ω1 t.heap ∧ am_okS ω1.1.length v.toList) ∧ va_F A st t
/-- the room that a method's run takes -/
noncomputable def am_rm (m' : am_M) (ω ω1 : am_W) : Room := { frames := am_rk m', cells := ω1.1.length - ω.1.length, slots := am_sl ω1.1 - am_sl ω.1, locals := 40 * am_rk m' }
noncomputable def am_wy (b : Nat) : List Cond := Cond.code (am_nm.get b) (am_by.get b) (am_max b) (am_ty b) :: am_wds
def am_Mt (l : Launch) (G : am_G) (A : Nat → Prop) (AD : List Nat) (m' : am_M) (as : List am_V) (ω : am_W) (v : Option am_V) (ω1 : am_W) : Prop := Met l (am_nm.get m'.1) (am_wy m'.1) (am_rm m' ω ω1) (am_Pc G A AD as ω) (am_Qc G A AD v ω1) (ω1.1.length - ω.1.length) (am_sl ω1.1 - am_sl ω.1) A
theorem am_AOA_moved {ty : FieldType} {u U : State} (hvm : u.vm.Alike U.vm) (h : am_AOA ty u) : am_AOA ty U := by
  have h1 : (Cond.arrayOver (.array ty)).before #[] (u.setVm U.vm) = true := by rw [Cond.arrayOver_setVmC hvm]; exact h
  exact h1
theorem am_Pu_at {AD : List Nat} {H : Heap} {locs : List Loc} (C : am_Cx G mm A p R s m args meth c sc) (hR : am_Rl G A AD ω H) (hV : va_S A s.heap H locs) (hsc : ω.2.2 = sc) {U : State} (hU : U.heap = H) (hW : s.WarmedH U.vm) : am_Pu G A AD ω U := by
  obtain ⟨-, -, -, -, -, -, -, -, hK, hnw, hst, -, -, hA, hX, hao⟩ := C
  refine ⟨by rw [hU]; exact hR, va_K.moved hW.alike hK, fun w hw => ?_, ⟨?_, ?_, ?_, fun o idx k w ho h => (hst.2.2.2 o idx k w ho h).warm hW⟩, fun q hq => hA q (Nat.le_trans hV.1 (by rw [← hU]; exact hq)), ⟨?_, hX.2.1, ?_⟩, ⟨va_AO.moved hW.alike hao.1, va_AO.moved hW.alike hao.2.1, am_AOA_moved hW.alike hao.2.2⟩⟩
  · have h2 := (List.mem_filter.mp hw).2
    cases w <;> first | (exact va_Nw.warmM hW (hnw _ hw)) | (simp at h2; done)
  · rw [hU]
    exact vk_S.moved hW.alike (hst.1.kept hV.2.1)
  · rw [hU]
    exact va_Z.moved hW.alike (hst.2.1.kept hV.2.1)
  · rw [hU]
    exact va_Zq.moved hW.alike (hst.2.2.1.kept hV.2.1)
  · rw [hU, hsc]
    exact va_X.moved hW.alike (hX.1.kept (hV.2.1 _ hX.2.2 hX.2.1))
  · rw [hU]
    exact Nat.lt_of_lt_of_le hX.2.2 hV.1
theorem am_blind {AD : List Nat} {as : List am_V} : FrameBlind (am_Pc G A AD as ω) := by
  intro a U g mk h
  obtain ⟨h1, h2, h3, h4, h5, h6, h7, h8⟩ := h
  have hv : U.vm.Alike (U.calling g mk a).vm := Vm.Alike.refl U.vm
  refine ⟨h1, h2, va_K.moved (u := U) (U := U.calling g mk a) hv h3, fun w hw => ?_, ⟨vk_S.moved (u := U) (U := U.calling g mk a) hv h5.1, va_Z.moved (u := U) (U := U.calling g mk a) hv h5.2.1, va_Zq.moved (u := U) (U := U.calling g mk a) hv h5.2.2.1, fun o idx k w ho h => vk_R.same (u := U) (U := U.calling g mk a) rfl (h5.2.2.2 o idx k w ho h)⟩, h6, ⟨va_X.moved (u := U) (U := U.calling g mk a) hv h7.1, h7.2⟩, ⟨va_AO.moved (u := U) (U := U.calling g mk a) hv h8.1, va_AO.moved (u := U) (U := U.calling g mk a) hv h8.2.1, am_AOA_moved (u := U) (U := U.calling g mk a) hv h8.2.2⟩⟩
  have h2 := (List.mem_filter.mp hw).2
  cases w <;> first | (exact va_Nw.same (u := U) (U := U.calling g mk a) rfl rfl (h4 _ hw)) | (simp at h2; done)
theorem am_cont {AD : List Nat} {H : Heap} {locs : List Loc} {ls : Array Slot} {cells slots mc ms : Nat} {v : Option am_V} {ω1 : am_W} {st0 rest : List Value} {av : Array Value} (hr : va_Run p l e R s m args below meth c H locs cells slots mc ms (F0 m pc ls st0) rest (am_Qc G A AD v ω1 av) A) (hS : va_S A s.heap H locs)
    (kk : ∀ (X : List Nat) (H1 : Heap) (locs1 : List Loc), am_Rl G A (AD ++ X) ω1 H1 → am_okS ω1.1.length v.toList → va_S A s.heap H1 locs1 → W p l e R s m args below meth c H1 locs1 (cells + mc) (slots + ms) Q (F0 m (pc + 3) ls ((v.map (am_mv G (AD ++ X))).toList ++ rest))) : W p l e R s m args below meth c H locs cells slots Q (F0 m pc ls st0) := by
  intro T hT X
  obtain ⟨v', st₀, t, T', L, h0, X', hL, e1, e2, ⟨⟨Y, hv, hRl, hok⟩, hz, hk⟩, st⟩ := hr T hT X
  have hv := Outcome.returned.inj hv
  subst hv
  rw [h0] at hz hk
  obtain ⟨t2, a1, b1⟩ := kk Y T'.heap (locs ++ L) (by rw [e1]; exact hRl) hok ⟨Nat.le_trans hS.1 (by rw [e1]; exact hz), fun q h1 h2 => by rw [e1, hk q (Nat.lt_of_lt_of_le h1 hS.1) h2]; exact hS.2.1 q h1 h2, fun q hq => (List.mem_append.mp hq).elim (hS.2.2 q) (fun h => hL q h)⟩ T' rfl X'
  exact ⟨t2, st t2 a1, b1⟩
/-- the method's own words, for its callers -/
theorem am_mw {b : Nat} (hb : b < 240) : Cond.code (am_nm.get b) (am_by.get b) (am_max b) (am_ty b) ∈ am_wds ∧ plainFor (am_nm.get b) = true ∧ ((am_nm.get b).cls ≠ "java/lang/invoke/MethodHandle" ∧ (am_nm.get b).cls ≠ "java/lang/invoke/VarHandle") ∧ (am_nm.get b).cls = am_cn (am_own b) ∧ am_max b ≤ 16 := by
  have h1 := am_all_get (am_allb_all am_okm_all) b
  have h2 : (am_cw.get b).1 = b := by
    have : ∀ b, b < 240 → (am_cw.getImpl b).1 = b := by decide +kernel
    rw [← am_get_impl]
    exact this b hb
  unfold am_okm at h1
  simp only [Bool.and_eq_true, decide_eq_true_eq] at h1
  rw [h2] at h1
  simp only [am_get_impl] at h1
  obtain ⟨g1, g2, g3, g4, g5⟩ := h1
  exact ⟨am_wd g1 rfl, g2, g3, g4, Nat.le_of_ble_eq_true g5⟩
theorem am_goodW {b : Nat} (hb : b < 240) : GoodIn am_wds (am_wy b) := fun w hw => by
  rcases List.mem_cons.mp hw with rfl | h
  · exact ⟨(am_mw hb).1, Or.inl rfl⟩
  · exact ⟨h, am_wds_good w h⟩
theorem am_args_of {n : Nat} {as S' : List am_V} (h : am_args n S = some (as, S')) : S = as.reverse ++ S' ∧ as.length = n ∧ am_words S' ≤ 8 := by
  unfold am_args at h
  cases hb : (decide (n ≤ S.length) && decide (am_words (S.drop n) ≤ 8)) with
  | false => rw [hb] at h; cases h
  | true =>
    rw [hb] at h
    simp only [Bool.and_eq_true, decide_eq_true_eq] at hb
    have e := Option.some.inj h
    have e1 : (S.take n).reverse = as := congrArg Prod.fst e
    have e2 : S.drop n = S' := congrArg Prod.snd e
    subst e1
    subst e2
    refine ⟨by rw [List.reverse_reverse, List.take_append_drop], by rw [List.length_reverse, List.length_take]; omega, hb.2⟩
theorem am_push_of {rk : Nat} {v : Option am_V} {S' S1 : List am_V} (h : am_push rk v S' = some S1) : S1 = v.toList ++ S' := by
  unfold am_push at h
  split at h <;> first | (cases h; rfl) | cases h
/-- behind a call -/
theorem am_kk_call {AD : List Nat} {H : Heap} {locs : List Loc} {ls : Array Slot} {cells slots rk : Nat} {v : Option am_V} {ω1 : am_W} {S' S1 : List am_V} {st0 : List Value} {av : Array Value} (hF : am_Fr G AD (am_max mm.1) L ls) (hL : am_okL ω.1.length L) (hS : am_okS ω.1.length S') (hR : am_Rl G A AD ω H) (hV : am_VS A s.heap AD0 AD H locs) (hc : cells + c0 = ω.1.length) (hs : slots + s0 = am_sl ω.1) (hsc : ω.2.2 = sc)
    (hg : ω.1.length ≤ ω1.1.length) (hg2 : am_sl ω.1 ≤ am_sl ω1.1) (hg3 : ω1.2.2 = ω.2.2) (hpu : am_push rk v S' = some S1) (kk : am_J G mm A p l e R s m args below meth c Q c0 s0 sc AD0 (pc + 3) L S1 ω1)
    (hr : va_Run p l e R s m args below meth c H locs cells slots (ω1.1.length - ω.1.length) (am_sl ω1.1 - am_sl ω.1) (F0 m pc ls st0) (S'.map (am_mv G AD)) (am_Qc G A AD v ω1 av) A) : W p l e R s m args below meth c H locs cells slots Q (F0 m pc ls st0) := by
  refine am_cont hr hV.1 (fun X H1 locs1 hR1 hok hS1 => ?_)
  have hlen : AD.length = ω.1.length := hR.1
  have e1 := am_push_of hpu
  subst e1
  have k2 := kk (AD ++ X) H1 locs1 ls (cells + (ω1.1.length - ω.1.length)) (slots + (am_sl ω1.1 - am_sl ω.1)) (am_Fr_ext X hlen.symm hF hL) (am_okL_up hL hg) (fun w hw => (List.mem_append.mp hw).elim (hok w) (fun h => am_okv_up (hS w h) hg)) hR1 ⟨hS1, List.IsPrefix.trans hV.2 (List.prefix_append _ _)⟩ (by omega) (by omega) (hg3.trans hsc)
  rw [List.map_append, am_map_ext X hlen.symm hS] at k2
  have e2 : (v.map (am_mv G (AD ++ X))).toList = v.toList.map (am_mv G (AD ++ X)) := by cases v <;> rfl
  rw [e2]
  exact k2
theorem am_room {m' : am_M} {ω1 : am_W} (C : am_Cx G mm A p R s m args meth c sc) (hb : m'.1 < 240) (hrk : am_rk m' + 1 ≤ am_rk mm) : (am_rm m' ω ω1).frames + 1 ≤ R.frames ∧ 8 + (am_max m'.1 + 11) + (am_rm m' ω ω1).locals ≤ R.locals := by
  have h1 := C.2.2.2.2.2.2.2.2.2.2.2.1
  have h2 := C.2.2.2.2.2.2.2.2.2.2.2.2.1
  have h3 := (am_mw hb).2.2.2.2
  refine ⟨?_, ?_⟩
  · show am_rk m' + 1 ≤ R.frames
    omega
  · show 8 + (am_max m'.1 + 11) + 40 * am_rk m' ≤ R.locals
    omega
theorem am_hW {pc : Nat} {ls : Array Slot} {st : List Value} {AD : List Nat} {S' : List am_V} (h : am_words S' ≤ 8) : 2 * (F0 m pc ls st).monitorRoom + ((S'.map (am_mv G AD)).map fun v => v.category).sum ≤ 8 := by
  rw [am_words_S]
  show 2 * 0 + _ ≤ 8
  omega
theorem am_fix (C : am_Cx G mm A p R s m args meth c sc) : CallFix p m c (am_by.get mm.1) (am_max mm.1) s args am_wds (am_cn (am_own mm.1)) := ⟨C.1, C.2.1, C.2.2.1, C.2.2.2.1, C.2.2.2.2.1⟩
theorem aj_callV {idx b na rk w w2 w3 w4 : Nat} {m' : am_M} {as S' S1 : List am_V} {v : Option am_V} {ω1 : am_W} (C : am_Cx G mm A p R s m args meth c sc) (hd : decode (am_by.get mm.1) pc = .ok (.invokevirtual idx, 3)) (hp : am_lk (am_pm.get (am_own mm.1)) idx = some (0, b, na, rk, w, w2, w3, w4)) (hm : m'.1 = b) (has : am_args na S = some (as, S')) (hrk : am_rk m' + 1 ≤ am_rk mm) (hrc : ∃ r as', as = .inr (.inr r) :: as' ∧ am_is ω r (am_own b, am_nf (am_own b)) = true) (hM : ∀ AD : List Nat, AD.length = ω.1.length → am_okS ω.1.length as → am_Mt l G A AD m' as ω v ω1) (hg : ω.1.length ≤ ω1.1.length) (hg2 : am_sl ω.1 ≤ am_sl ω1.1) (hg3 : ω1.2.2 = ω.2.2) (hb1 : ω1.1.length ≤ c0 + R.cells) (hb2 : am_sl ω1.1 ≤ s0 + R.slots) (hpu : am_push rk v S' = some S1) (kk : am_J G mm A p l e R s m args below meth c Q c0 s0 sc AD0 (pc + 3) L S1 ω1) : am_J G mm A p l e R s m args below meth c Q c0 s0 sc AD0 pc L S ω := by
  intro AD H locs ls cells slots hF hL hS hR hV hc hs hsc
  obtain ⟨hne, hok⟩ := am_okp_at (am_own_lt mm.1) hp
  unfold am_okp at hok
  replace hok := (Bool.or_eq_true_iff.mp hok).resolve_left (fun q => hne (Nat.eq_of_beq_eq_true q))
  dsimp only at hok
  simp only [Bool.and_eq_true, decide_eq_true_eq, am_get_impl] at hok
  obtain ⟨eS, elen, ew⟩ := am_args_of has
  have hSas : am_okS ω.1.length as := fun x hx => hS x (by rw [eS]; exact List.mem_append_left _ (List.mem_reverse.mpr hx))
  have hS' : am_okS ω.1.length S' := fun x hx => hS x (by rw [eS]; exact List.mem_append_right _ hx)
  obtain ⟨o1, o2, o3, o4, o5, o6, o7, o8⟩ := hok
  obtain ⟨r, as', rfl, hris⟩ := hrc
  obtain ⟨h0, hq⟩ := am_is_of hris
  subst hm
  have hb : m'.1 < 240 := o7
  have hMM := hM AD hR.1 hSas
  obtain ⟨y1, y2, y3, y4, y5⟩ := am_mw hb
  obtain ⟨rr, g1, g2, g3, g4, -⟩ := am_cls (show am_own m'.1 < 8 from o5)
  have hat := am_ws_at (G := G) (AD := AD) hq
  rw [am_enc_o (show am_own m'.1 < 8 from o5)] at hat
  have est : S.map (am_mv G AD) = (as'.map (am_mv G AD)).reverse ++ .ref (AD.getD r.toNat 0) :: S'.map (am_mv G AD) := by
    rw [eS, List.reverse_cons, List.append_assoc, List.map_append, List.map_reverse]
    show _ ++ (am_mr G AD r :: S'.map (am_mv G AD)) = _
    rw [am_mr_pos h0]
  have eav : (as'.map (am_mv G AD)).length = as'.length := List.length_map ..
  refine am_kk_call (v := v) hF hL hS' hR hV hc hs hsc hg hg2 hg3 hpu kk (va_runV (As := as'.map (am_mv G AD)) (n := as'.length) (C := (am_nm.get m'.1).cls) (am_fix C) hMM ⟨callB_of as'.length C.2.2.2.2.1 (am_goodW hb) rfl rfl rfl (C.2.2.2.2.1 _ (am_wd o4 rfl)) (C.2.2.2.2.1 _ (am_wd o1 rfl)) ⟨y3.1, y3.2, ?_⟩ (am_room C hb hrk), C.2.2.2.2.1 _ (am_wd o2 rfl), C.2.2.2.2.1 _ (am_wd o3 rfl)⟩ ⟨am_blind, ?_, fun U hU hW => ⟨?_, am_Pu_at C hR hV.1 hsc hU hW⟩⟩ rfl eav hF.2.1 est (am_hW ew) hd ⟨by omega, by omega⟩)
  · have : as'.length + 1 = na := by rw [← elen]; rfl
    rw [← this] at o8
    cases hpd : parseMethodDescriptor (am_nm.get m'.1).desc with
    | none => rw [hpd] at o8; cases o8
    | some d =>
      rw [hpd] at o8
      have e9 : d.parameters.length + 1 = as'.length + 1 := Option.some.inj o8
      show some d.parameters.length = _
      congr 1
      omega
  · have hrv := va_recv C.2.2.2.2.2.2.2.2.1 hR.2.2.1 g1 hat
    rw [g3, ← y4] at hrv
    exact hrv
  · show _ = (am_mr G AD r :: as'.map (am_mv G AD)).toArray
    rw [am_mr_pos h0]
theorem aj_callS {idx b na rk w w2 w3 w4 : Nat} {m' : am_M} {as S' S1 : List am_V} {v : Option am_V} {ω1 : am_W} (C : am_Cx G mm A p R s m args meth c sc) (hd : decode (am_by.get mm.1) pc = .ok (.invokestatic idx, 3)) (hp : am_lk (am_pm.get (am_own mm.1)) idx = some (2, b, na, rk, w, w2, w3, w4)) (hm : m'.1 = b) (has : am_args na S = some (as, S')) (hrk : am_rk m' + 1 ≤ am_rk mm) (hM : ∀ AD : List Nat, AD.length = ω.1.length → am_okS ω.1.length as → am_Mt l G A AD m' as ω v ω1) (hg : ω.1.length ≤ ω1.1.length) (hg2 : am_sl ω.1 ≤ am_sl ω1.1) (hg3 : ω1.2.2 = ω.2.2) (hb1 : ω1.1.length ≤ c0 + R.cells) (hb2 : am_sl ω1.1 ≤ s0 + R.slots) (hpu : am_push rk v S' = some S1) (kk : am_J G mm A p l e R s m args below meth c Q c0 s0 sc AD0 (pc + 3) L S1 ω1) : am_J G mm A p l e R s m args below meth c Q c0 s0 sc AD0 pc L S ω := by
  intro AD H locs ls cells slots hF hL hS hR hV hc hs hsc
  obtain ⟨hne, hok⟩ := am_okp_at (am_own_lt mm.1) hp
  unfold am_okp at hok
  replace hok := (Bool.or_eq_true_iff.mp hok).resolve_left (fun q => hne (Nat.eq_of_beq_eq_true q))
  dsimp only at hok
  simp only [Bool.and_eq_true, decide_eq_true_eq, am_get_impl] at hok
  obtain ⟨eS, elen, ew⟩ := am_args_of has
  have hSas : am_okS ω.1.length as := fun x hx => hS x (by rw [eS]; exact List.mem_append_left _ (List.mem_reverse.mpr hx))
  have hS' : am_okS ω.1.length S' := fun x hx => hS x (by rw [eS]; exact List.mem_append_right _ hx)
  obtain ⟨o1, o2, o4, o6, o7, o8⟩ := hok
  subst hm
  have hb : m'.1 < 240 := o7
  have hMM := hM AD hR.1 hSas
  obtain ⟨y1, y2, y3, y4, y5⟩ := am_mw hb
  have est : S.map (am_mv G AD) = (as.map (am_mv G AD)).reverse ++ S'.map (am_mv G AD) := by
    rw [eS, List.map_append, List.map_reverse]
  have eav : (as.map (am_mv G AD)).length = as.length := List.length_map ..
  refine am_kk_call (v := v) hF hL hS' hR hV hc hs hsc hg hg2 hg3 hpu kk (va_runS (As := as.map (am_mv G AD)) (n := as.length) (am_fix C) hMM ⟨callB_of as.length C.2.2.2.2.1 (am_goodW hb) rfl rfl rfl (C.2.2.2.2.1 _ (am_wd o4 rfl)) (C.2.2.2.2.1 _ (am_wd o1 rfl)) ⟨y3.1, y3.2, ?_⟩ (am_room C hb hrk), C.2.2.2.2.1 _ (am_wd o2 rfl)⟩ ⟨am_blind, fun U hU hW => ⟨rfl, am_Pu_at C hR hV.1 hsc hU hW⟩⟩ rfl eav hF.2.1 est (am_hW ew) hd ⟨by omega, by omega⟩)
  rw [← elen] at o8
  exact o8
theorem aj_callSN {idx b na rk w w2 w3 w4 : Nat} {m' : am_M} {as S' S1 : List am_V} {v : Option am_V} {ω1 : am_W} (C : am_Cx G mm A p R s m args meth c sc) (hd : decode (am_by.get mm.1) pc = .ok (.invokestatic idx, 3)) (hp : am_lk (am_pm.get (am_own mm.1)) idx = some (3, b, na, rk, w, w2, w3, w4)) (hm : m'.1 = b) (has : am_args na S = some (as, S')) (hrk : am_rk m' + 1 ≤ am_rk mm) (hM : ∀ AD : List Nat, AD.length = ω.1.length → am_okS ω.1.length as → am_Mt l G A AD m' as ω v ω1) (hg : ω.1.length ≤ ω1.1.length) (hg2 : am_sl ω.1 ≤ am_sl ω1.1) (hg3 : ω1.2.2 = ω.2.2) (hb1 : ω1.1.length ≤ c0 + R.cells) (hb2 : am_sl ω1.1 ≤ s0 + R.slots) (hpu : am_push rk v S' = some S1) (kk : am_J G mm A p l e R s m args below meth c Q c0 s0 sc AD0 (pc + 3) L S1 ω1) : am_J G mm A p l e R s m args below meth c Q c0 s0 sc AD0 pc L S ω := by
  intro AD H locs ls cells slots hF hL hS hR hV hc hs hsc
  obtain ⟨hne, hok⟩ := am_okp_at (am_own_lt mm.1) hp
  unfold am_okp at hok
  replace hok := (Bool.or_eq_true_iff.mp hok).resolve_left (fun q => hne (Nat.eq_of_beq_eq_true q))
  dsimp only at hok
  simp only [Bool.and_eq_true, decide_eq_true_eq, am_get_impl] at hok
  obtain ⟨eS, elen, ew⟩ := am_args_of has
  have hSas : am_okS ω.1.length as := fun x hx => hS x (by rw [eS]; exact List.mem_append_left _ (List.mem_reverse.mpr hx))
  have hS' : am_okS ω.1.length S' := fun x hx => hS x (by rw [eS]; exact List.mem_append_right _ hx)
  obtain ⟨o1, o2, o4, o6, o7, o8⟩ := hok
  subst hm
  have hb : m'.1 < 240 := o7
  have hMM := hM AD hR.1 hSas
  obtain ⟨y1, y2, y3, y4, y5⟩ := am_mw hb
  have est : S.map (am_mv G AD) = (as.map (am_mv G AD)).reverse ++ S'.map (am_mv G AD) := by
    rw [eS, List.map_append, List.map_reverse]
  have eav : (as.map (am_mv G AD)).length = as.length := List.length_map ..
  refine am_kk_call (v := v) hF hL hS' hR hV hc hs hsc hg hg2 hg3 hpu kk (va_runSN (As := as.map (am_mv G AD)) (n := as.length) (am_fix C) hMM ⟨va_cnB (host := "FasterToBeLater") as.length C.2.2.2.2.1 (am_goodW hb) rfl rfl rfl (C.2.2.2.2.2.2.2.2.2.1 _ (List.mem_filter.mpr ⟨List.mem_of_getElem? o1, rfl⟩)) (C.2.2.2.2.1 _ (am_wd o4 rfl)) ⟨y3.1, y3.2, ?_⟩ (am_room C hb hrk), C.2.2.2.2.1 _ (am_wd o2 rfl), trivial⟩ ⟨am_blind, fun U hU hW => ⟨rfl, am_Pu_at C hR hV.1 hsc hU hW⟩⟩ rfl eav hF.2.1 est (am_hW ew) hd ⟨by omega, by omega⟩)
  rw [← elen] at o8
  exact o8
theorem aj_callI {idx b na rk w w2 w3 w4 : Nat} {m' : am_M} {as S' S1 : List am_V} {v : Option am_V} {ω1 : am_W} (C : am_Cx G mm A p R s m args meth c sc) (hd : decode (am_by.get mm.1) pc = .ok (.invokespecial idx, 3)) (hp : am_lk (am_pm.get (am_own mm.1)) idx = some (4, b, na, rk, w, w2, w3, w4)) (hm : m'.1 = b) (has : am_args na S = some (as, S')) (hrk : am_rk m' + 1 ≤ am_rk mm) (hrc : ∃ r as', as = .inr (.inr r) :: as' ∧ am_is ω r (am_own b, am_nf (am_own b)) = true) (hM : ∀ AD : List Nat, AD.length = ω.1.length → am_okS ω.1.length as → am_Mt l G A AD m' as ω v ω1) (hg : ω.1.length ≤ ω1.1.length) (hg2 : am_sl ω.1 ≤ am_sl ω1.1) (hg3 : ω1.2.2 = ω.2.2) (hb1 : ω1.1.length ≤ c0 + R.cells) (hb2 : am_sl ω1.1 ≤ s0 + R.slots) (hpu : am_push rk v S' = some S1) (kk : am_J G mm A p l e R s m args below meth c Q c0 s0 sc AD0 (pc + 3) L S1 ω1) : am_J G mm A p l e R s m args below meth c Q c0 s0 sc AD0 pc L S ω := by
  intro AD H locs ls cells slots hF hL hS hR hV hc hs hsc
  obtain ⟨hne, hok⟩ := am_okp_at (am_own_lt mm.1) hp
  unfold am_okp at hok
  replace hok := (Bool.or_eq_true_iff.mp hok).resolve_left (fun q => hne (Nat.eq_of_beq_eq_true q))
  dsimp only at hok
  simp only [Bool.and_eq_true, decide_eq_true_eq, am_get_impl] at hok
  obtain ⟨eS, elen, ew⟩ := am_args_of has
  have hSas : am_okS ω.1.length as := fun x hx => hS x (by rw [eS]; exact List.mem_append_left _ (List.mem_reverse.mpr hx))
  have hS' : am_okS ω.1.length S' := fun x hx => hS x (by rw [eS]; exact List.mem_append_right _ hx)
  obtain ⟨o1, o2, o3, o4, o5, o6, o7, o8⟩ := hok
  obtain ⟨r, as', rfl, hris⟩ := hrc
  obtain ⟨h0, hq⟩ := am_is_of hris
  subst hm
  have hb : m'.1 < 240 := o7
  have hMM := hM AD hR.1 hSas
  obtain ⟨y1, y2, y3, y4, y5⟩ := am_mw hb
  have hwy : am_wy m'.1 = Cond.code (am_nm.get m'.1) (am_by.get m'.1) (am_max m'.1) none :: am_wds := by
    unfold am_wy am_ty am_rt
    rw [o6.2]
    rfl
  have est : S.map (am_mv G AD) = (as'.map (am_mv G AD)).reverse ++ .ref (AD.getD r.toNat 0) :: S'.map (am_mv G AD) := by
    rw [eS, List.reverse_cons, List.append_assoc, List.map_append, List.map_reverse]
    show _ ++ (am_mr G AD r :: S'.map (am_mv G AD)) = _
    rw [am_mr_pos h0]
  have eav : (as'.map (am_mv G AD)).length = as'.length := List.length_map ..
  refine am_kk_call (v := v) hF hL hS' hR hV hc hs hsc hg hg2 hg3 hpu kk (va_runI (As := as'.map (am_mv G AD)) (n := as'.length) (am_fix C) hMM (cwI as'.length C.2.2.2.2.1 (am_goodW hb) hwy rfl rfl (C.2.2.2.2.1 _ (am_wd o4 rfl)) (C.2.2.2.2.1 _ (am_wd o1 rfl)) (C.2.2.2.2.1 _ (am_wd o2 rfl)) o3 ⟨y3.1, y3.2, ?_⟩ (am_room C hb hrk)) ⟨am_blind, fun U hU hW => ⟨?_, am_Pu_at C hR hV.1 hsc hU hW⟩⟩ rfl eav hF.2.1 est (am_hW ew) hd ⟨by omega, by omega⟩)
  · have : as'.length + 1 = na := by rw [← elen]; rfl
    rw [← this] at o8
    cases hpd : parseMethodDescriptor (am_nm.get m'.1).desc with
    | none => rw [hpd] at o8; cases o8
    | some d =>
      rw [hpd] at o8
      have e9 : d.parameters.length + 1 = as'.length + 1 := Option.some.inj o8
      show some d.parameters.length = _
      congr 1
      omega
  · show _ = (am_mr G AD r :: as'.map (am_mv G AD)).toArray
    rw [am_mr_pos h0]
theorem aj_callIN {idx b na rk w w2 w3 w4 : Nat} {m' : am_M} {as S' S1 : List am_V} {v : Option am_V} {ω1 : am_W} (C : am_Cx G mm A p R s m args meth c sc) (hd : decode (am_by.get mm.1) pc = .ok (.invokespecial idx, 3)) (hp : am_lk (am_pm.get (am_own mm.1)) idx = some (5, b, na, rk, w, w2, w3, w4)) (hm : m'.1 = b) (has : am_args na S = some (as, S')) (hrk : am_rk m' + 1 ≤ am_rk mm) (hrc : ∃ r as', as = .inr (.inr r) :: as' ∧ am_is ω r (am_own b, am_nf (am_own b)) = true) (hM : ∀ AD : List Nat, AD.length = ω.1.length → am_okS ω.1.length as → am_Mt l G A AD m' as ω v ω1) (hg : ω.1.length ≤ ω1.1.length) (hg2 : am_sl ω.1 ≤ am_sl ω1.1) (hg3 : ω1.2.2 = ω.2.2) (hb1 : ω1.1.length ≤ c0 + R.cells) (hb2 : am_sl ω1.1 ≤ s0 + R.slots) (hpu : am_push rk v S' = some S1) (kk : am_J G mm A p l e R s m args below meth c Q c0 s0 sc AD0 (pc + 3) L S1 ω1) : am_J G mm A p l e R s m args below meth c Q c0 s0 sc AD0 pc L S ω := by
  intro AD H locs ls cells slots hF hL hS hR hV hc hs hsc
  obtain ⟨hne, hok⟩ := am_okp_at (am_own_lt mm.1) hp
  unfold am_okp at hok
  replace hok := (Bool.or_eq_true_iff.mp hok).resolve_left (fun q => hne (Nat.eq_of_beq_eq_true q))
  dsimp only at hok
  simp only [Bool.and_eq_true, decide_eq_true_eq, am_get_impl] at hok
  obtain ⟨eS, elen, ew⟩ := am_args_of has
  have hSas : am_okS ω.1.length as := fun x hx => hS x (by rw [eS]; exact List.mem_append_left _ (List.mem_reverse.mpr hx))
  have hS' : am_okS ω.1.length S' := fun x hx => hS x (by rw [eS]; exact List.mem_append_right _ hx)
  obtain ⟨o1, o2, o3, o4, o5, o6, o7, o8⟩ := hok
  obtain ⟨r, as', rfl, hris⟩ := hrc
  obtain ⟨h0, hq⟩ := am_is_of hris
  subst hm
  have hb : m'.1 < 240 := o7
  have hMM := hM AD hR.1 hSas
  obtain ⟨y1, y2, y3, y4, y5⟩ := am_mw hb
  have hwy : am_wy m'.1 = Cond.code (am_nm.get m'.1) (am_by.get m'.1) (am_max m'.1) none :: am_wds := by
    unfold am_wy am_ty am_rt
    rw [o6.2]
    rfl
  have est : S.map (am_mv G AD) = (as'.map (am_mv G AD)).reverse ++ .ref (AD.getD r.toNat 0) :: S'.map (am_mv G AD) := by
    rw [eS, List.reverse_cons, List.append_assoc, List.map_append, List.map_reverse]
    show _ ++ (am_mr G AD r :: S'.map (am_mv G AD)) = _
    rw [am_mr_pos h0]
  have eav : (as'.map (am_mv G AD)).length = as'.length := List.length_map ..
  refine am_kk_call (v := v) hF hL hS' hR hV hc hs hsc hg hg2 hg3 hpu kk (va_runIN (As := as'.map (am_mv G AD)) (n := as'.length) (am_fix C) hMM (⟨va_cnB (host := "FasterToBeLater") as'.length C.2.2.2.2.1 (am_goodW hb) hwy rfl rfl (C.2.2.2.2.2.2.2.2.2.1 _ (List.mem_filter.mpr ⟨List.mem_of_getElem? o1, rfl⟩)) (C.2.2.2.2.1 _ (am_wd o4 rfl)) ⟨y3.1, y3.2, ?_⟩ (am_room C hb hrk), o3, C.2.2.2.2.1 _ (am_wd o2 rfl)⟩) ⟨am_blind, fun U hU hW => ⟨?_, am_Pu_at C hR hV.1 hsc hU hW⟩⟩ rfl eav hF.2.1 est (am_hW ew) hd ⟨by omega, by omega⟩)
  · have : as'.length + 1 = na := by rw [← elen]; rfl
    rw [← this] at o8
    cases hpd : parseMethodDescriptor (am_nm.get m'.1).desc with
    | none => rw [hpd] at o8; cases o8
    | some d =>
      rw [hpd] at o8
      have e9 : d.parameters.length + 1 = as'.length + 1 := Option.some.inj o8
      show some d.parameters.length = _
      congr 1
      omega
  · show _ = (am_mr G AD r :: as'.map (am_mv G AD)).toArray
    rw [am_mr_pos h0]
end AC
