/-! ===== what the pools say, read off the checks ===== -/
theorem am_all_imp {α : Type} {P P' : α → Prop} (h : ∀ a, P a → P' a) : ∀ {t : Lean.RArray α}, am_all P t → am_all P' t
  | .leaf _, q => h _ q
  | .branch _ _ _, q => ⟨am_all_imp h q.1, am_all_imp h q.2⟩
def am_tokb : Nat → FieldType → Bool
  | 0, .int => true
  | 1, .boolean => true
  | 2, .object _ => true
  | 2, .array _ => true
  | _, _ => false
/-- a class of ours -/
def am_clsP (ci : Nat) (rr : vw_C) : Prop := vwCl[ci]? = some rr ∧ rr.2.2 = am_nf ci ∧ rr.1 = am_cn ci ∧ (∀ w ∈ u_ws rr.1 rr.2.1 rr.2.2, w ∈ am_wds) ∧ (∃ ty0 : Nat → FieldType, (∀ k, k < rr.2.2 → parseFieldDescriptor (rr.2.1 k).2.2.1 = some (ty0 k)) ∧ ∀ k, k < rr.2.2 → am_tokb (am_fk ci k) (ty0 k) = true) ∧ (∀ a, a < rr.2.2 → ∀ b, b < rr.2.2 → a ≠ b → (rr.2.1 a).2.1 ≠ (rr.2.1 b).2.1) ∧ ∀ k, k < rr.2.2 → ((rr.2.1 k).2.2.2 = !(Nat.beq ((am_fins.getD ci []).getD k 0) 0)) ∧ (rr.2.1 k).1 = am_cn ci
theorem am_cls_0 : am_clsP 0 (RX0, TX0, 3) := ⟨rfl, by decide +kernel, by decide +kernel, fun w h => List.mem_filter.mpr (am_in_0 w h), ⟨tyX0, tyX0_ok, by decide +kernel⟩, nmX0, by decide +kernel⟩
theorem am_cls_1 : am_clsP 1 (RX1, TX1, 15) := ⟨rfl, by decide +kernel, by decide +kernel, fun w h => List.mem_filter.mpr (am_in_1 w h), ⟨tyX1, tyX1_ok, by decide +kernel⟩, nmX1, by decide +kernel⟩
theorem am_cls_2 : am_clsP 2 (RX2, TX2, 3) := ⟨rfl, by decide +kernel, by decide +kernel, fun w h => List.mem_filter.mpr (am_in_2 w h), ⟨tyX2, tyX2_ok, by decide +kernel⟩, nmX2, by decide +kernel⟩
theorem am_cls_3 : am_clsP 3 (RX3, TX3, 7) := ⟨rfl, by decide +kernel, by decide +kernel, fun w h => List.mem_filter.mpr (am_in_3 w h), ⟨tyX3, tyX3_ok, by decide +kernel⟩, nmX3, by decide +kernel⟩
theorem am_cls_4 : am_clsP 4 (RX4, TX4, 5) := ⟨rfl, by decide +kernel, by decide +kernel, fun w h => List.mem_filter.mpr (am_in_4 w h), ⟨tyX4, tyX4_ok, by decide +kernel⟩, nmX4, by decide +kernel⟩
theorem am_cls_5 : am_clsP 5 (RX5, TX5, 8) := ⟨rfl, by decide +kernel, by decide +kernel, fun w h => List.mem_filter.mpr (am_in_5 w h), ⟨tyX5, tyX5_ok, by decide +kernel⟩, nmX5, by decide +kernel⟩
theorem am_cls_6 : am_clsP 6 (RX6, TX6, 10) := ⟨rfl, by decide +kernel, by decide +kernel, fun w h => List.mem_filter.mpr (am_in_6 w h), ⟨tyX6, tyX6_ok, by decide +kernel⟩, nmX6, by decide +kernel⟩
theorem am_cls_7 : am_clsP 7 (RX7, TX7, 30) := ⟨rfl, by decide +kernel, by decide +kernel, fun w h => List.mem_filter.mpr (am_in_7 w h), ⟨tyX7, tyX7_ok, by decide +kernel⟩, nmX7, by decide +kernel⟩
theorem am_cls {ci : Nat} (h : ci < 8) : ∃ rr, am_clsP ci rr := match ci, h with
  | 0, _ => ⟨_, am_cls_0⟩
  | 1, _ => ⟨_, am_cls_1⟩
  | 2, _ => ⟨_, am_cls_2⟩
  | 3, _ => ⟨_, am_cls_3⟩
  | 4, _ => ⟨_, am_cls_4⟩
  | 5, _ => ⟨_, am_cls_5⟩
  | 6, _ => ⟨_, am_cls_6⟩
  | 7, _ => ⟨_, am_cls_7⟩
  | n + 8, h => absurd h (by omega)
theorem am_own_lt (b : Nat) : am_own b < 12 := of_decide_eq_true (am_all_get (am_allb_all (f := fun q => decide (q.1 < 12)) (show am_allb _ am_mt = true by decide +kernel)) b)
theorem am_okf_o {o : Nat} (h : o < 12) : am_allb (am_okf o) (am_pf.get o) = true := match o, h with
  | 0, _ => am_okf_0
  | 1, _ => am_okf_1
  | 2, _ => am_okf_2
  | 3, _ => am_okf_3
  | 4, _ => am_okf_4
  | 5, _ => am_okf_5
  | 6, _ => am_okf_6
  | 7, _ => am_okf_7
  | 8, _ => am_okf_8
  | 9, _ => am_okf_9
  | 10, _ => am_okf_10
  | 11, _ => am_okf_11
  | n + 12, h => absurd h (by omega)
theorem am_okp_o {o : Nat} (h : o < 12) : am_allb (am_okp o) (am_pm.get o) = true := match o, h with
  | 0, _ => am_okp_0
  | 1, _ => am_okp_1
  | 2, _ => am_okp_2
  | 3, _ => am_okp_3
  | 4, _ => am_okp_4
  | 5, _ => am_okp_5
  | 6, _ => am_okp_6
  | 7, _ => am_okp_7
  | 8, _ => am_okp_8
  | 9, _ => am_okp_9
  | 10, _ => am_okp_10
  | 11, _ => am_okp_11
  | n + 12, h => absurd h (by omega)
theorem am_okq_o {o : Nat} (h : o < 12) : am_allb (am_okq o) (am_pc.get o) = true := match o, h with
  | 0, _ => am_okq_0
  | 1, _ => am_okq_1
  | 2, _ => am_okq_2
  | 3, _ => am_okq_3
  | 4, _ => am_okq_4
  | 5, _ => am_okq_5
  | 6, _ => am_okq_6
  | 7, _ => am_okq_7
  | 8, _ => am_okq_8
  | 9, _ => am_okq_9
  | 10, _ => am_okq_10
  | 11, _ => am_okq_11
  | n + 12, h => absurd h (by omega)
theorem am_okl_o {o : Nat} (h : o < 12) : am_allb (am_okl o) (am_pl.get o) = true := match o, h with
  | 0, _ => am_okl_0
  | 1, _ => am_okl_1
  | 2, _ => am_okl_2
  | 3, _ => am_okl_3
  | 4, _ => am_okl_4
  | 5, _ => am_okl_5
  | 6, _ => am_okl_6
  | 7, _ => am_okl_7
  | 8, _ => am_okl_8
  | 9, _ => am_okl_9
  | 10, _ => am_okl_10
  | 11, _ => am_okl_11
  | n + 12, h => absurd h (by omega)
theorem am_okx_o {o : Nat} (h : o < 12) : am_allb (am_okx o) (am_ps.get o) = true := match o, h with
  | 0, _ => am_okx_0
  | 1, _ => am_okx_1
  | 2, _ => am_okx_2
  | 3, _ => am_okx_3
  | 4, _ => am_okx_4
  | 5, _ => am_okx_5
  | 6, _ => am_okx_6
  | 7, _ => am_okx_7
  | 8, _ => am_okx_8
  | 9, _ => am_okx_9
  | 10, _ => am_okx_10
  | 11, _ => am_okx_11
  | n + 12, h => absurd h (by omega)
theorem am_okn_o {o : Nat} (h : o < 12) : am_allb (am_okn o) (am_pn.get o) = true := match o, h with
  | 0, _ => am_okn_0
  | 1, _ => am_okn_1
  | 2, _ => am_okn_2
  | 3, _ => am_okn_3
  | 4, _ => am_okn_4
  | 5, _ => am_okn_5
  | 6, _ => am_okn_6
  | 7, _ => am_okn_7
  | 8, _ => am_okn_8
  | 9, _ => am_okn_9
  | 10, _ => am_okn_10
  | 11, _ => am_okn_11
  | n + 12, h => absurd h (by omega)
theorem am_okf_at {o idx ci k w : Nat} (ho : o < 12) (h : am_lk (am_pf.get o) idx = some (ci, k, w)) : ci < 8 ∧ k < am_nf ci ∧ ∀ rr, vwCl[ci]? = some rr → Cond.fieldLink (am_cn o) idx (rr.2.1 k).1 (rr.2.1 k).2.1 (rr.2.1 k).2.2.1 ∈ am_wds := by
  have h1 : am_all (fun q : Nat × Nat × Nat × Nat => q.1 = 999999 ∨ (q.2.1 < 8 ∧ q.2.2.1 < am_nf q.2.1 ∧ ∀ rr, vwCl[q.2.1]? = some rr → Cond.fieldLink (am_cn o) q.1 (rr.2.1 q.2.2.1).1 (rr.2.1 q.2.2.1).2.1 (rr.2.1 q.2.2.1).2.2.1 ∈ am_wds)) (am_pf.get o) := am_all_imp (fun q hq => by
    unfold am_okf at hq
    rcases Bool.or_eq_true_iff.mp hq with e | e
    · exact Or.inl (Nat.eq_of_beq_eq_true e)
    · right
      simp only [Bool.and_eq_true, decide_eq_true_eq] at e
      refine ⟨e.1, e.2.1, fun rr hr => ?_⟩
      have e3 := e.2.2
      rw [hr] at e3
      exact am_wd (of_decide_eq_true e3) rfl) (am_allb_all (am_okf_o ho))
  exact am_lk_of h1 h
theorem am_okq_at {o idx w : Nat} {z : Int} (ho : o < 12) (h : am_lk (am_pc.get o) idx = some (z, w)) : Cond.constant (am_cn o) idx (Int32.ofInt z) ∈ am_wds ∧ am_R32 z := by
  have h1 : am_all (fun q : Nat × Int × Nat => q.1 = 999999 ∨ (Cond.constant (am_cn o) q.1 (Int32.ofInt q.2.1) ∈ am_wds ∧ am_R32 q.2.1)) (am_pc.get o) := am_all_imp (fun q hq => by
    unfold am_okq at hq
    rcases Bool.or_eq_true_iff.mp hq with e | e
    · exact Or.inl (Nat.eq_of_beq_eq_true e)
    · right
      simp only [Bool.and_eq_true, decide_eq_true_eq] at e
      exact ⟨am_wd e.1 rfl, e.2⟩) (am_allb_all (am_okq_o ho))
  exact am_lk_of h1 h
theorem am_okl_at {o idx w : Nat} {z : Int} (ho : o < 12) (h : am_lk (am_pl.get o) idx = some (z, w)) : Cond.constantLong (am_cn o) idx (Int64.ofInt z) ∈ am_wds ∧ am_R64 z := by
  have h1 : am_all (fun q : Nat × Int × Nat => q.1 = 999999 ∨ (Cond.constantLong (am_cn o) q.1 (Int64.ofInt q.2.1) ∈ am_wds ∧ am_R64 q.2.1)) (am_pl.get o) := am_all_imp (fun q hq => by
    unfold am_okl at hq
    rcases Bool.or_eq_true_iff.mp hq with e | e
    · exact Or.inl (Nat.eq_of_beq_eq_true e)
    · right
      simp only [Bool.and_eq_true, decide_eq_true_eq] at e
      exact ⟨am_wd e.1 rfl, e.2⟩) (am_allb_all (am_okl_o ho))
  exact am_lk_of h1 h
theorem am_okx_at {o idx k w : Nat} (ho : o < 12) (h : am_lk (am_ps.get o) idx = some (k, w)) : k < 6 := by
  have h1 : am_all (fun q : Nat × Nat × Nat => q.1 = 999999 ∨ q.2.1 < 6) (am_ps.get o) := am_all_imp (fun q hq => by
    unfold am_okx at hq
    rcases Bool.or_eq_true_iff.mp hq with e | e
    · exact Or.inl (Nat.eq_of_beq_eq_true e)
    · right
      simp only [Bool.and_eq_true, decide_eq_true_eq] at e
      exact e.2.1) (am_allb_all (am_okx_o ho))
  exact am_lk_of h1 h
theorem am_okn_at {o idx ci w : Nat} (ho : o < 12) (h : am_lk (am_pn.get o) idx = some (ci, w)) : Cond.classLink (am_cn o) idx (if ci < 8 then am_cn ci else "[[I") ∈ am_wds := by
  have h1 : am_all (fun q : Nat × Nat × Nat => q.1 = 999999 ∨ Cond.classLink (am_cn o) q.1 (if q.2.1 < 8 then am_cn q.2.1 else "[[I") ∈ am_wds) (am_pn.get o) := am_all_imp (fun q hq => by
    unfold am_okn at hq
    rcases Bool.or_eq_true_iff.mp hq with e | e
    · exact Or.inl (Nat.eq_of_beq_eq_true e)
    · right
      exact am_wd (of_decide_eq_true e) rfl) (am_allb_all (am_okn_o ho))
  exact am_lk_of h1 h
theorem am_ctor_nm : ∀ b ∈ am_ctors, (am_nm.getImpl b).name = "<init>" := by decide +kernel
section AM
variable {G : am_G} {mm : am_M} {A : Nat → Prop} {p : Program} {l : Launch} {e : Env} {R : Room} {s : State} {m : MethodId} {args : Array Value} {below : List Frame} {meth : Method} {c : Code} {Q : State → Prop} {c0 s0 : Nat} {sc : Nat × (Nat → Int)} {AD0 : List Nat} {pc : Nat} {L : am_L} {S : List am_V} {ω : am_W}
theorem am_mr_pos {AD : List Nat} {r : Int} (h : 0 ≤ r) : am_mr G AD r = .ref (AD.getD r.toNat 0) := if_pos h
theorem am_mr_rf {AD : List Nat} {r : Int} (h : -1 ≤ r) : va_rf (am_rf AD r) = am_mr G AD r := by
  unfold am_rf am_mr
  by_cases h0 : 0 ≤ r
  · rw [if_pos h0, if_pos h0]; rfl
  · rw [if_neg h0, if_neg h0, if_pos (by omega)]; rfl
theorem am_enc_o {AD : List Nat} {ci n : Nat} {f : Nat → Int} (h : ci < 8) : am_enc G AD (ci, n) f = .inr (ci, (List.range n).map (fun j => am_fv AD (am_fk ci j) (f j))) := if_pos h
theorem am_enc_i {AD : List Nat} {n : Nat} {f : Nat → Int} : am_enc G AD (100, n) f = .inl (am_ca G 100, n, .inl (fun j => Int32.ofInt (f j))) := rfl
theorem am_enc_l {AD : List Nat} {n : Nat} {f : Nat → Int} : am_enc G AD (101, n) f = .inl (am_ca G 101, n, .inr (.inl (fun j => Int64.ofInt (f j)))) := rfl
theorem am_enc_q {AD : List Nat} {kd n : Nat} {f : Nat → Int} (h : 102 ≤ kd) : am_enc G AD (kd, n) f = .inl (am_ca G kd, n, .inr (.inr (.inr (.inr (fun j => am_rf AD (f j)))))) := by
  unfold am_enc
  rw [if_neg (by dsimp only; omega), if_neg (by dsimp only; omega), if_neg (by dsimp only; omega)]
theorem am_okc_i {n j : Nat} {z : Int} (h : am_okc n 100 j z) : am_R32 z := h
theorem am_okc_l {n j : Nat} {z : Int} (h : am_okc n 101 j z) : am_R64 z := h
theorem am_okc_q {n kd j : Nat} {z : Int} (hk : 102 ≤ kd) : am_okc n kd j z ↔ -1 ≤ z ∧ z < n := by
  unfold am_okc
  rw [if_neg (by omega), if_neg (by omega), if_neg (by omega)]
theorem aj_getfield {idx ci k w : Nat} {r : Int} (C : am_Cx G mm A p R s m args meth c sc) (hd : decode (am_by.get mm.1) pc = .ok (.getfield idx, 3)) (hp : am_lk (am_pf.get (am_own mm.1)) idx = some (ci, k, w)) (hi : am_is ω r (ci, am_nf ci) = true) (kk : am_J G mm A p l e R s m args below meth c Q c0 s0 sc AD0 (pc + 3) L ((match am_fk ci k with | 2 => .inr (.inr (am_get ω r.toNat k)) | _ => .inl (am_get ω r.toNat k)) :: S) ω) : am_J G mm A p l e R s m args below meth c Q c0 s0 sc AD0 pc L (.inr (.inr r) :: S) ω := by
  intro AD H locs ls cells slots hF hL hS hR hV hc hs hsc
  obtain ⟨h0, hq⟩ := am_is_of hi
  obtain ⟨hci, hk, hlk⟩ := am_okf_at (am_own_lt mm.1) hp
  obtain ⟨rr, g1, g2, g3, g4, -⟩ := am_cls hci
  obtain ⟨hA, hW, hP, hD⟩ := hR
  have hat := am_ws_at (G := G) (AD := AD) hq
  rw [am_enc_o hci] at hat
  have hv : ((List.range (am_nf ci)).map (fun j => am_fv AD (am_fk ci j) (ω.2.1 r.toNat j)))[k]? = some (am_fv AD (am_fk ci k) (ω.2.1 r.toNat k)) := by rw [List.getElem?_map, List.getElem?_range hk]; rfl
  have hokc := (hW.1 _ _ hq).2 k
  unfold am_okc at hokc
  rw [if_pos hci] at hokc
  show W p l e R s m args below meth c H locs cells slots Q (F0 m pc ls (am_mr G AD r :: S.map (am_mv G AD)))
  rw [am_mr_pos h0]
  refine va_get (D := G.1) (cl := vwCl) (tys := am_tys G) (C := rr.1) (T := rr.2.1) (N := rr.2.2) (Ts := am_wds) C.1 C.2.1 C.2.2.2.2.1 g4 C.2.2.2.1 C.2.2.2.2.2.2.2.2.1 hP r.toNat hat g1 k (by rw [g2]; exact hk) (C.2.2.2.2.1 _ (hlk rr g1)) (fun _ h => h) hv hd ?_
  have hok : am_okv ω.1.length (match am_fk ci k with | 2 => .inr (.inr (am_get ω r.toNat k)) | _ => .inl (am_get ω r.toNat k)) := by
    by_cases h2 : am_fk ci k = 2
    · rw [h2]
      rw [if_pos h2] at hokc
      show -9 < am_get ω r.toNat k ∧ am_get ω r.toNat k < (ω.1.length : Int)
      have hokc : -1 ≤ am_get ω r.toNat k ∧ am_get ω r.toNat k < (ω.1.length : Int) := hokc
      omega
    · rw [if_neg h2] at hokc
      split
      · rename_i h3; exact absurd h3 h2
      · exact hokc
  have k2 := kk AD H locs ls cells slots hF hL (am_okS_c hok (am_okS_t hS)) ⟨hA, hW, hP, hD⟩ hV hc hs hsc
  have ev : am_mv G AD (match am_fk ci k with | 2 => .inr (.inr (am_get ω r.toNat k)) | _ => .inl (am_get ω r.toNat k)) = am_fv AD (am_fk ci k) (ω.2.1 r.toNat k) := by
    unfold am_fv
    by_cases h2 : am_fk ci k = 2
    · rw [if_pos h2, h2]
      rw [if_pos h2] at hokc
      exact (am_mr_rf hokc.1).symm
    · rw [if_neg h2]
      split
      · rename_i h3; exact absurd h3 h2
      · rfl
  rw [← ev]
  exact k2
/-- a cell of the world holds something else -/
theorem am_Rl_put {AD : List Nat} {H H1 : Heap} {a k : Nat} {v : Int} {q : Nat × Nat} {E : va_E} (hR : am_Rl G A AD ω H) (hq : ω.1[a]? = some q) (hv : am_okc ω.1.length q.1 k v) (hE : E = am_enc G AD q (fun k' => if k' = k then v else ω.2.1 a k')) (hP : va_P G.1 vwCl ((am_ws G AD ω).set a (AD.getD a 0, E)) H1) (hD : va_D A ((am_ws G AD ω).set a (AD.getD a 0, E))) : am_Rl G A AD (am_put ω a k v) H1 := by
  have e : (am_ws G AD ω).set a (AD.getD a 0, E) = am_ws G AD (am_put ω a k v) := by
    refine am_ws_set (g := fun a' k' => if a' = a ∧ k' = k then v else ω.2.1 a' k') hq ?_ (fun i hi => ?_)
    · rw [hE]
      congr 1
      funext k'
      by_cases hk : k' = k
      · rw [if_pos hk, if_pos ⟨rfl, hk⟩]
      · rw [if_neg hk, if_neg (fun z => hk z.2)]
    · funext k'
      exact if_neg (fun z => hi z.1)
  rw [e] at hP hD
  exact ⟨hR.1, am_okw_put hR.2.1 (fun q' hq' => by rw [hq] at hq'; cases hq'; exact hv), hP, hD⟩
theorem am_set_o {AD : List Nat} {ci n k : Nat} {f : Nat → Int} {v : Int} (h : ci < 8) (hk : k < n) : (.inr (ci, ((List.range n).map (fun j => am_fv AD (am_fk ci j) (f j))).set k (am_fv AD (am_fk ci k) v)) : va_E) = am_enc G AD (ci, n) (fun k' => if k' = k then v else f k') := by
  rw [am_enc_o h]
  congr 2
  apply List.ext_getElem?
  intro i
  by_cases hi : i = k
  · subst hi
    rw [List.getElem?_set_self (by simpa using hk), List.getElem?_map, List.getElem?_range hk]
    simp
  · rw [List.getElem?_set_ne (fun z => hi z.symm), List.getElem?_map, List.getElem?_map]
    cases hr : (List.range n)[i]? with
    | none => rfl
    | some x =>
      have hx : x = i := by
        have := List.getElem?_eq_some_iff.mp hr
        obtain ⟨h1, h2⟩ := this
        simpa using h2.symm
      subst hx
      simp [hi]
theorem aj_putfieldi {idx ci k w : Nat} {r z : Int} (C : am_Cx G mm A p R s m args meth c sc) (hd : decode (am_by.get mm.1) pc = .ok (.putfield idx, 3)) (hp : am_lk (am_pf.get (am_own mm.1)) idx = some (ci, k, w)) (hi : am_is ω r (ci, am_nf ci) = true) (hfin : am_fin (am_own mm.1) mm.1 ci k = true) (hz0 : am_fk ci k = 0 ∨ (am_fk ci k = 1 ∧ (z = 0 ∨ z = 1))) (kk : am_J G mm A p l e R s m args below meth c Q c0 s0 sc AD0 (pc + 3) L S (am_put ω r.toNat k z)) : am_J G mm A p l e R s m args below meth c Q c0 s0 sc AD0 pc L (.inl z :: .inr (.inr r) :: S) ω := by
  intro AD H locs ls cells slots hF hL hS hR hV hc hs hsc
  obtain ⟨h0, hq⟩ := am_is_of hi
  obtain ⟨hci, hk, hlk⟩ := am_okf_at (am_own_lt mm.1) hp
  obtain ⟨rr, g1, g2, g3, g4, ⟨ty0, g5, g6⟩, g7, g8⟩ := am_cls hci
  have hR0 := hR
  obtain ⟨hA, hW, hP, hD⟩ := hR
  have hat := am_ws_at (G := G) (AD := AD) hq
  rw [am_enc_o hci] at hat
  have hkr : k < rr.2.2 := by rw [g2]; exact hk
  have ht := g6 k hkr
  have hz : am_okv ω.1.length (.inl z) := am_okS_h hS
  have hfe : .int (Int32.ofInt z) = am_fv AD (am_fk ci k) z := by
    unfold am_fv
    rw [if_neg (by omega)]
  have hnar : narrow (ty0 k) (.int (Int32.ofInt z)) = .int (Int32.ofInt z) := by
    rcases hz0 with h | ⟨h, h2⟩
    · rw [h] at ht
      cases hty : ty0 k <;> first | (rw [hty] at ht; cases ht; done) | rfl
    · rw [h] at ht
      cases hty : ty0 k <;> first | (rw [hty] at ht; cases ht; done) | (rcases h2 with rfl | rfl <;> rfl)
  have hfit : fits (ty0 k) (.int (Int32.ofInt z)) = true := by
    rcases hz0 with h | ⟨h, h2⟩
    · rw [h] at ht
      cases hty : ty0 k <;> first | (rw [hty] at ht; cases ht; done) | rfl
    · rw [h] at ht
      cases hty : ty0 k <;> first | (rw [hty] at ht; cases ht; done) | (rcases h2 with rfl | rfl <;> rfl)
  have hokc : am_okc ω.1.length (ci, am_nf ci).1 k z := by
    show am_okc ω.1.length ci k z
    unfold am_okc
    rw [if_pos hci]
    rw [if_neg (by omega)]
    exact hz
  show W p l e R s m args below meth c H locs cells slots Q (F0 m pc ls (.int (Int32.ofInt z) :: am_mr G AD r :: S.map (am_mv G AD)))
  rw [am_mr_pos h0]
  have fin : ∀ (H1 : Heap) (locs1 : List Loc), va_P G.1 vwCl ((am_ws G AD ω).set r.toNat (AD.getD r.toNat 0, .inr (ci, ((List.range (am_nf ci)).map (fun j => am_fv AD (am_fk ci j) (ω.2.1 r.toNat j))).set k (.int (Int32.ofInt z))))) H1 → va_D A ((am_ws G AD ω).set r.toNat (AD.getD r.toNat 0, .inr (ci, ((List.range (am_nf ci)).map (fun j => am_fv AD (am_fk ci j) (ω.2.1 r.toNat j))).set k (.int (Int32.ofInt z))))) → va_S A s.heap H1 locs1 → W p l e R s m args below meth c H1 locs1 cells slots Q (F0 m (pc + 3) ls (S.map (am_mv G AD))) := by
    intro H1 locs1 hP1 hD1 hS1
    rw [hfe] at hP1 hD1
    exact kk AD H1 locs1 ls cells slots hF hL (am_okS_t (am_okS_t hS)) (am_Rl_put hR0 hq hokc (am_set_o hci hk) hP1 hD1) ⟨hS1, hV.2⟩ hc hs hsc
  have hl : k < ((List.range (am_nf ci)).map (fun j => am_fv AD (am_fk ci j) (ω.2.1 r.toNat j))).length := by simpa using hk
  cases hf : Nat.beq ((am_fins.getD ci []).getD k 0) 0 with
  | true =>
    have hf2 : (rr.2.1 k).2.2.2 = false := by rw [(g8 k hkr).1, hf]; rfl
    exact va_put (D := G.1) (cl := vwCl) (tys := am_tys G) (C := rr.1) (T := rr.2.1) (N := rr.2.2) (Ts := am_wds) C.1 C.2.1 C.2.2.2.2.1 g4 ty0 g5 g7 C.2.2.2.1 C.2.2.2.2.2.2.2.2.1 hP hD hV.1 r.toNat hat g1 k hkr (C.2.2.2.2.1 _ (hlk rr g1)) (fun _ h => h) hf2 (g5 k hkr) hnar hfit hl hd fin
  | false =>
    have hf2 : (rr.2.1 k).2.2.2 = true := by rw [(g8 k hkr).1, hf]; rfl
    unfold am_fin at hfin
    rw [hf, Bool.false_or, Bool.and_eq_true] at hfin
    have hmem : mm.1 ∈ am_ctors := List.contains_iff_mem.mp hfin.1
    have hnm : meth.name = "<init>" := C.2.2.2.2.2.2.2.1 hmem
    have how : (rr.2.1 k).1 = am_cn (am_own mm.1) := by rw [(g8 k hkr).2, Nat.eq_of_beq_eq_true hfin.2]
    exact va_putF (D := G.1) (cl := vwCl) (tys := am_tys G) (C := rr.1) (T := rr.2.1) (N := rr.2.2) (Ts := am_wds) C.1 C.2.1 C.2.2.2.2.1 g4 ty0 g5 g7 C.2.2.2.1 C.2.2.2.2.2.2.2.2.1 hP hD hV.1 r.toNat hat g1 k hkr (C.2.2.2.2.1 _ (hlk rr g1)) (fun _ h => h) hf2 hnm how (g5 k hkr) hnar hfit hl hd fin
theorem aj_putfieldr {idx ci k w : Nat} {r z : Int} (C : am_Cx G mm A p R s m args meth c sc) (hd : decode (am_by.get mm.1) pc = .ok (.putfield idx, 3)) (hp : am_lk (am_pf.get (am_own mm.1)) idx = some (ci, k, w)) (hi : am_is ω r (ci, am_nf ci) = true) (hfin : am_fin (am_own mm.1) mm.1 ci k = true) (hz0 : am_fk ci k = 2) (hz1 : -1 ≤ z) (kk : am_J G mm A p l e R s m args below meth c Q c0 s0 sc AD0 (pc + 3) L S (am_put ω r.toNat k z)) : am_J G mm A p l e R s m args below meth c Q c0 s0 sc AD0 pc L (.inr (.inr z) :: .inr (.inr r) :: S) ω := by
  intro AD H locs ls cells slots hF hL hS hR hV hc hs hsc
  obtain ⟨h0, hq⟩ := am_is_of hi
  obtain ⟨hci, hk, hlk⟩ := am_okf_at (am_own_lt mm.1) hp
  obtain ⟨rr, g1, g2, g3, g4, ⟨ty0, g5, g6⟩, g7, g8⟩ := am_cls hci
  have hR0 := hR
  obtain ⟨hA, hW, hP, hD⟩ := hR
  have hat := am_ws_at (G := G) (AD := AD) hq
  rw [am_enc_o hci] at hat
  have hkr : k < rr.2.2 := by rw [g2]; exact hk
  have ht := g6 k hkr
  have hz : am_okv ω.1.length (.inr (.inr z)) := am_okS_h hS
  have hfe : am_mr G AD z = am_fv AD (am_fk ci k) z := by
    unfold am_fv
    rw [if_pos hz0, am_mr_rf hz1]
  have hnar : narrow (ty0 k) (am_mr G AD z) = am_mr G AD z := by
    rw [hz0] at ht
    cases hty : ty0 k <;> first | (rw [hty] at ht; cases ht; done) | rfl
  have hfit : fits (ty0 k) (am_mr G AD z) = true := by
    rw [hz0] at ht
    rcases am_mr_or G AD z with ⟨-, hv⟩ | ⟨-, a, hv⟩ <;> rw [hv] <;> cases hty : ty0 k <;> first | (rw [hty] at ht; cases ht; done) | rfl
  have hokc : am_okc ω.1.length (ci, am_nf ci).1 k z := by
    show am_okc ω.1.length ci k z
    unfold am_okc
    rw [if_pos hci]
    rw [if_pos hz0]
    have hz : -9 < z ∧ z < (ω.1.length : Int) := hz
    omega
  show W p l e R s m args below meth c H locs cells slots Q (F0 m pc ls (am_mr G AD z :: am_mr G AD r :: S.map (am_mv G AD)))
  rw [am_mr_pos h0]
  have fin : ∀ (H1 : Heap) (locs1 : List Loc), va_P G.1 vwCl ((am_ws G AD ω).set r.toNat (AD.getD r.toNat 0, .inr (ci, ((List.range (am_nf ci)).map (fun j => am_fv AD (am_fk ci j) (ω.2.1 r.toNat j))).set k (am_mr G AD z)))) H1 → va_D A ((am_ws G AD ω).set r.toNat (AD.getD r.toNat 0, .inr (ci, ((List.range (am_nf ci)).map (fun j => am_fv AD (am_fk ci j) (ω.2.1 r.toNat j))).set k (am_mr G AD z)))) → va_S A s.heap H1 locs1 → W p l e R s m args below meth c H1 locs1 cells slots Q (F0 m (pc + 3) ls (S.map (am_mv G AD))) := by
    intro H1 locs1 hP1 hD1 hS1
    rw [hfe] at hP1 hD1
    exact kk AD H1 locs1 ls cells slots hF hL (am_okS_t (am_okS_t hS)) (am_Rl_put hR0 hq hokc (am_set_o hci hk) hP1 hD1) ⟨hS1, hV.2⟩ hc hs hsc
  have hl : k < ((List.range (am_nf ci)).map (fun j => am_fv AD (am_fk ci j) (ω.2.1 r.toNat j))).length := by simpa using hk
  cases hf : Nat.beq ((am_fins.getD ci []).getD k 0) 0 with
  | true =>
    have hf2 : (rr.2.1 k).2.2.2 = false := by rw [(g8 k hkr).1, hf]; rfl
    exact va_put (D := G.1) (cl := vwCl) (tys := am_tys G) (C := rr.1) (T := rr.2.1) (N := rr.2.2) (Ts := am_wds) C.1 C.2.1 C.2.2.2.2.1 g4 ty0 g5 g7 C.2.2.2.1 C.2.2.2.2.2.2.2.2.1 hP hD hV.1 r.toNat hat g1 k hkr (C.2.2.2.2.1 _ (hlk rr g1)) (fun _ h => h) hf2 (g5 k hkr) hnar hfit hl hd fin
  | false =>
    have hf2 : (rr.2.1 k).2.2.2 = true := by rw [(g8 k hkr).1, hf]; rfl
    unfold am_fin at hfin
    rw [hf, Bool.false_or, Bool.and_eq_true] at hfin
    have hmem : mm.1 ∈ am_ctors := List.contains_iff_mem.mp hfin.1
    have hnm : meth.name = "<init>" := C.2.2.2.2.2.2.2.1 hmem
    have how : (rr.2.1 k).1 = am_cn (am_own mm.1) := by rw [(g8 k hkr).2, Nat.eq_of_beq_eq_true hfin.2]
    exact va_putF (D := G.1) (cl := vwCl) (tys := am_tys G) (C := rr.1) (T := rr.2.1) (N := rr.2.2) (Ts := am_wds) C.1 C.2.1 C.2.2.2.2.1 g4 ty0 g5 g7 C.2.2.2.1 C.2.2.2.2.2.2.2.2.1 hP hD hV.1 r.toNat hat g1 k hkr (C.2.2.2.2.1 _ (hlk rr g1)) (fun _ h => h) hf2 hnm how (g5 k hkr) hnar hfit hl hd fin
theorem aj_iaload {j r : Int} (C : am_Cx G mm A p R s m args meth c sc) (hd : decode (am_by.get mm.1) pc = .ok (.iaload, 1)) (hi : am_in ω r 100 j = true) (kk : am_J G mm A p l e R s m args below meth c Q c0 s0 sc AD0 (pc + 1) L (.inl (am_get ω r.toNat j.toNat) :: S) ω) : am_J G mm A p l e R s m args below meth c Q c0 s0 sc AD0 pc L (.inl j :: .inr (.inr r) :: S) ω := by
  intro AD H locs ls cells slots hF hL hS hR hV hc hs hsc
  obtain ⟨h0, n, hq, h1, h2⟩ := am_in_of hi
  have hj : am_R32 j := am_okS_h hS
  obtain ⟨hA, hW, hP, hD⟩ := id hR
  have hat := am_ws_at (G := G) (AD := AD) hq
  rw [am_enc_i] at hat
  show W p l e R s m args below meth c H locs cells slots Q (F0 m pc ls (.int (Int32.ofInt j) :: am_mr G AD r :: S.map (am_mv G AD)))
  rw [am_mr_pos h0]
  refine va_iald (D := G.1) (cl := vwCl) (tys := am_tys G) C.1 C.2.1 C.2.2.2.2.2.2.2.2.1 hP r.toNat 0 hat rfl (nu_in hj h1 h2) hd ?_
  rw [nu_clamp hj h1]
  exact kk AD H locs ls cells slots hF hL (am_okS_c (am_okc_i ((hW.1 _ _ hq).2 j.toNat)) (am_okS_t (am_okS_t hS))) hR hV hc hs hsc
theorem aj_laload {j r : Int} (C : am_Cx G mm A p R s m args meth c sc) (hd : decode (am_by.get mm.1) pc = .ok (.laload, 1)) (hi : am_in ω r 101 j = true) (kk : am_J G mm A p l e R s m args below meth c Q c0 s0 sc AD0 (pc + 1) L (.inr (.inl (am_get ω r.toNat j.toNat)) :: S) ω) : am_J G mm A p l e R s m args below meth c Q c0 s0 sc AD0 pc L (.inl j :: .inr (.inr r) :: S) ω := by
  intro AD H locs ls cells slots hF hL hS hR hV hc hs hsc
  obtain ⟨h0, n, hq, h1, h2⟩ := am_in_of hi
  have hj : am_R32 j := am_okS_h hS
  obtain ⟨hA, hW, hP, hD⟩ := id hR
  have hat := am_ws_at (G := G) (AD := AD) hq
  rw [am_enc_l] at hat
  show W p l e R s m args below meth c H locs cells slots Q (F0 m pc ls (.int (Int32.ofInt j) :: am_mr G AD r :: S.map (am_mv G AD)))
  rw [am_mr_pos h0]
  refine va_lald (D := G.1) (cl := vwCl) (tys := am_tys G) C.1 C.2.1 C.2.2.2.2.2.2.2.2.1 hP r.toNat 1 hat rfl (nu_in hj h1 h2) hd ?_
  rw [nu_clamp hj h1]
  exact kk AD H locs ls cells slots hF hL (am_okS_c (am_okc_l ((hW.1 _ _ hq).2 j.toNat)) (am_okS_t (am_okS_t hS))) hR hV hc hs hsc
/-- a reference out of an array, of objects or of arrays -/
theorem am_aald {AD : List Nat} {H : Heap} {locs : List Loc} {ls : Array Slot} {cells slots : Nat} {a q0 t0 n : Nat} {cA : ClassId} {ty : FieldType} {f : Nat → Option Nat} {i : Int32} {rest : List Value} (C : am_Cx G mm A p R s m args meth c sc) (hP : va_P G.1 vwCl (am_ws G AD ω) H) (ha : (am_ws G AD ω)[q0]? = some (a, .inl (cA, n, .inr (.inr (.inr (.inr f)))))) (ht : (am_tys G)[t0]? = some (cA, ty)) (hty : ty.isReference = true) (hin : vp_in i n) (hdg : decode (am_by.get mm.1) pc = .ok (.aaload, 1))
    (kk : W p l e R s m args below meth c H locs cells slots Q (F0 m (pc + 1) ls (va_rf (f i.toNatClampNeg) :: rest))) : W p l e R s m args below meth c H locs cells slots Q (F0 m pc ls (.int i :: .ref a :: rest)) := by
  have hlt : i.toNatClampNeg < n := Nat.not_le.mp fun q => hin (Or.inr q)
  exact W.aald (v := va_rf (f i.toNatClampNeg)) (ty := ty) C.1 C.2.1 (hP q0 _ ha) ((C.2.2.2.2.2.2.2.2.1.2 t0 _ ht).1 n (fun j => va_rf (f j))) hty (fun q => by cases q) (by show ¬ (i < 0 ∨ (arrV _ _ _).slots.size ≤ _); rw [arrV_size]; exact hin) (by show (arrV _ _ _).slots[_]? = _; rw [arrV_read _ _ hlt]) rfl rfl hdg kk
theorem aj_aaload {kd t0 : Nat} {ty : FieldType} {j r : Int} (C : am_Cx G mm A p R s m args meth c sc) (hd : decode (am_by.get mm.1) pc = .ok (.aaload, 1)) (hkd : 102 ≤ kd) (ht : (am_tys G)[t0]? = some (am_ca G kd, ty)) (hty : ty.isReference = true) (hi : am_in ω r kd j = true) (kk : am_J G mm A p l e R s m args below meth c Q c0 s0 sc AD0 (pc + 1) L (.inr (.inr (am_get ω r.toNat j.toNat)) :: S) ω) : am_J G mm A p l e R s m args below meth c Q c0 s0 sc AD0 pc L (.inl j :: .inr (.inr r) :: S) ω := by
  intro AD H locs ls cells slots hF hL hS hR hV hc hs hsc
  obtain ⟨h0, n, hq, h1, h2⟩ := am_in_of hi
  have hj : am_R32 j := am_okS_h hS
  obtain ⟨hA, hW, hP, hD⟩ := id hR
  have hat := am_ws_at (G := G) (AD := AD) hq
  rw [am_enc_q hkd] at hat
  have hz := (am_okc_q hkd).mp ((hW.1 _ _ hq).2 j.toNat)
  show W p l e R s m args below meth c H locs cells slots Q (F0 m pc ls (.int (Int32.ofInt j) :: am_mr G AD r :: S.map (am_mv G AD)))
  rw [am_mr_pos h0]
  refine am_aald C hP hat ht hty (nu_in hj h1 h2) hd ?_
  rw [nu_clamp hj h1]
  show W p l e R s m args below meth c H locs cells slots Q (F0 m (pc + 1) ls (va_rf (am_rf AD (ω.2.1 r.toNat j.toNat)) :: S.map (am_mv G AD)))
  rw [am_mr_rf (G := G) hz.1]
  exact kk AD H locs ls cells slots hF hL (am_okS_c (v := .inr (.inr _)) (show -9 < am_get ω r.toNat j.toNat ∧ am_get ω r.toNat j.toNat < (ω.1.length : Int) from ⟨by have : -1 ≤ am_get ω r.toNat j.toNat := hz.1; omega, hz.2⟩) (am_okS_t (am_okS_t hS))) hR hV hc hs hsc
theorem aj_arraylength {kd t0 : Nat} {ty : FieldType} {r : Int} (C : am_Cx G mm A p R s m args meth c sc) (hd : decode (am_by.get mm.1) pc = .ok (.arraylength, 1)) (hkd : kd = 100 ∨ kd = 101) (ht : (am_tys G)[t0]? = some (am_ca G kd, ty)) (hi : am_ar ω r kd = true) (kk : am_J G mm A p l e R s m args below meth c Q c0 s0 sc AD0 (pc + 1) L (.inl (am_len ω r) :: S) ω) : am_J G mm A p l e R s m args below meth c Q c0 s0 sc AD0 pc L (.inr (.inr r) :: S) ω := by
  intro AD H locs ls cells slots hF hL hS hR hV hc hs hsc
  obtain ⟨h0, n, hq, h1⟩ := am_ar_of hi
  obtain ⟨hA, hW, hP, hD⟩ := id hR
  have hat := am_ws_at (G := G) (AD := AD) hq
  have hx : ∃ x : vp_A, am_enc G AD (kd, n) (ω.2.1 r.toNat) = .inl (am_ca G kd, x) ∧ x.1 = n := by
    rcases hkd with rfl | rfl
    · exact ⟨_, rfl, rfl⟩
    · exact ⟨_, rfl, rfl⟩
  obtain ⟨x, hx1, hx2⟩ := hx
  rw [hx1] at hat
  have hn : n < 2147483648 := by
    rcases (hW.1 _ _ hq).1 with h | h
    · have h : kd < 8 ∧ n = am_nf kd := h
      omega
    · exact h.2.2
  show W p l e R s m args below meth c H locs cells slots Q (F0 m pc ls (am_mr G AD r :: S.map (am_mv G AD)))
  rw [am_mr_pos h0]
  refine va_alen (D := G.1) (cl := vwCl) (tys := am_tys G) C.1 C.2.1 C.2.2.2.2.2.2.2.2.1 hP r.toNat t0 hat ht (v := Int32.ofInt (am_len ω r)) (by rw [hx2, h1]; rfl) hd ?_
  exact kk AD H locs ls cells slots hF hL (am_okS_c (v := .inl _) (by show am_R32 (am_len ω r); rw [h1]; unfold am_R32; omega) (am_okS_t hS)) hR hV hc hs hsc
theorem aj_scrlen (C : am_Cx G mm A p R s m args meth c sc) (hd : decode (am_by.get mm.1) pc = .ok (.arraylength, 1)) (kk : am_J G mm A p l e R s m args below meth c Q c0 s0 sc AD0 (pc + 1) L (.inl (ω.2.2.1 : Int) :: S) ω) : am_J G mm A p l e R s m args below meth c Q c0 s0 sc AD0 pc L (.inr (.inr (-2)) :: S) ω := by
  intro AD H locs ls cells slots hF hL hS hR hV hc hs hsc
  obtain ⟨hX, hbA, hbl⟩ := C.2.2.2.2.2.2.2.2.2.2.2.2.2.2.1
  rw [← hsc] at hX
  have h1 := hR.2.1.2.1
  refine va_slen C.1 C.2.1 hX hbl hbA hV.1 hd ?_
  exact kk AD H locs ls cells slots hF hL (am_okS_c (v := .inl _) (by show am_R32 _; unfold am_R32; omega) (am_okS_t hS)) hR hV hc hs hsc
theorem aj_scrload {j : Int} (C : am_Cx G mm A p R s m args meth c sc) (hd : decode (am_by.get mm.1) pc = .ok (.iaload, 1)) (h0 : 0 ≤ j) (h1 : j < (ω.2.2.1 : Int)) (kk : am_J G mm A p l e R s m args below meth c Q c0 s0 sc AD0 (pc + 1) L (.inl (ω.2.2.2 j.toNat) :: S) ω) : am_J G mm A p l e R s m args below meth c Q c0 s0 sc AD0 pc L (.inl j :: .inr (.inr (-2)) :: S) ω := by
  intro AD H locs ls cells slots hF hL hS hR hV hc hs hsc
  obtain ⟨hX, hbA, hbl⟩ := C.2.2.2.2.2.2.2.2.2.2.2.2.2.2.1
  rw [← hsc] at hX
  have hj : am_R32 j := am_okS_h hS
  refine va_sld C.1 C.2.1 hX hbl hbA hV.1 (nu_in hj h0 h1) hd ?_
  rw [nu_clamp hj h0]
  exact kk AD H locs ls cells slots hF hL (am_okS_c (v := .inl _) (hR.2.1.2.2 j.toNat) (am_okS_t (am_okS_t hS))) hR hV hc hs hsc
theorem am_upd_i {AD : List Nat} {n j : Nat} {f : Nat → Int} {z : Int} : (.inl (am_ca G 100, n, .inl (upd (fun j => Int32.ofInt (f j)) j (Int32.ofInt z))) : va_E) = am_enc G AD (100, n) (fun k' => if k' = j then z else f k') := by
  rw [am_enc_i]
  congr 4
  funext k
  unfold upd
  by_cases h : k = j
  · rw [if_pos h, if_pos h]
  · rw [if_neg h, if_neg h]
theorem am_upd_l {AD : List Nat} {n j : Nat} {f : Nat → Int} {z : Int} : (.inl (am_ca G 101, n, .inr (.inl (vp_updL (fun j => Int64.ofInt (f j)) j (Int64.ofInt z)))) : va_E) = am_enc G AD (101, n) (fun k' => if k' = j then z else f k') := by
  rw [am_enc_l]
  congr 5
  funext k
  unfold vp_updL
  by_cases h : k = j
  · rw [if_pos h, if_pos h]
  · rw [if_neg h, if_neg h]
theorem am_upd_q {AD : List Nat} {kd n j : Nat} {f : Nat → Int} {z : Int} (h0 : 102 ≤ kd) : (.inl (am_ca G kd, n, .inr (.inr (.inr (.inr (va_up (fun j => am_rf AD (f j)) j (am_rf AD z)))))) : va_E) = am_enc G AD (kd, n) (fun k' => if k' = j then z else f k') := by
  rw [am_enc_q h0]
  congr 8
  funext k
  unfold va_up
  by_cases h : k = j
  · rw [if_pos h, if_pos h]
  · rw [if_neg h, if_neg h]
theorem aj_iastore {j r z : Int} (C : am_Cx G mm A p R s m args meth c sc) (hd : decode (am_by.get mm.1) pc = .ok (.iastore, 1)) (hi : am_in ω r 100 j = true) (kk : am_J G mm A p l e R s m args below meth c Q c0 s0 sc AD0 (pc + 1) L S (am_put ω r.toNat j.toNat z)) : am_J G mm A p l e R s m args below meth c Q c0 s0 sc AD0 pc L (.inl z :: .inl j :: .inr (.inr r) :: S) ω := by
  intro AD H locs ls cells slots hF hL hS hR hV hc hs hsc
  obtain ⟨h0, n, hq, h1, h2⟩ := am_in_of hi
  have hz : am_R32 z := am_okS_h hS
  have hj : am_R32 j := am_okS_h (am_okS_t hS)
  obtain ⟨hA, hW, hP, hD⟩ := id hR
  have hat := am_ws_at (G := G) (AD := AD) hq
  rw [am_enc_i] at hat
  show W p l e R s m args below meth c H locs cells slots Q (F0 m pc ls (.int (Int32.ofInt z) :: .int (Int32.ofInt j) :: am_mr G AD r :: S.map (am_mv G AD)))
  rw [am_mr_pos h0]
  refine va_iast (D := G.1) (cl := vwCl) (tys := am_tys G) C.1 C.2.1 C.2.2.2.2.2.2.2.2.1 hP hD hV.1 r.toNat 0 hat rfl (nu_in hj h1 h2) hd (fun H1 locs1 hP1 hD1 hS1 => ?_)
  rw [nu_clamp hj h1] at hP1 hD1
  exact kk AD H1 locs1 ls cells slots hF hL (am_okS_t (am_okS_t (am_okS_t hS))) (am_Rl_put hR hq hz am_upd_i hP1 hD1) ⟨hS1, hV.2⟩ hc hs hsc
theorem aj_lastore {j r z : Int} (C : am_Cx G mm A p R s m args meth c sc) (hd : decode (am_by.get mm.1) pc = .ok (.lastore, 1)) (hi : am_in ω r 101 j = true) (kk : am_J G mm A p l e R s m args below meth c Q c0 s0 sc AD0 (pc + 1) L S (am_put ω r.toNat j.toNat z)) : am_J G mm A p l e R s m args below meth c Q c0 s0 sc AD0 pc L (.inr (.inl z) :: .inl j :: .inr (.inr r) :: S) ω := by
  intro AD H locs ls cells slots hF hL hS hR hV hc hs hsc
  obtain ⟨h0, n, hq, h1, h2⟩ := am_in_of hi
  have hz : am_R64 z := am_okS_h hS
  have hj : am_R32 j := am_okS_h (am_okS_t hS)
  obtain ⟨hA, hW, hP, hD⟩ := id hR
  have hat := am_ws_at (G := G) (AD := AD) hq
  rw [am_enc_l] at hat
  show W p l e R s m args below meth c H locs cells slots Q (F0 m pc ls (.long (Int64.ofInt z) :: .int (Int32.ofInt j) :: am_mr G AD r :: S.map (am_mv G AD)))
  rw [am_mr_pos h0]
  refine va_last (D := G.1) (cl := vwCl) (tys := am_tys G) C.1 C.2.1 C.2.2.2.2.2.2.2.2.1 hP hD hV.1 r.toNat 1 hat rfl (nu_in hj h1 h2) hd (fun H1 locs1 hP1 hD1 hS1 => ?_)
  rw [nu_clamp hj h1] at hP1 hD1
  exact kk AD H1 locs1 ls cells slots hF hL (am_okS_t (am_okS_t (am_okS_t hS))) (am_Rl_put hR hq hz am_upd_l hP1 hD1) ⟨hS1, hV.2⟩ hc hs hsc
theorem aj_aastore {kd t0 ci n0 : Nat} {rr : vw_C} {j r z : Int} (C : am_Cx G mm A p R s m args meth c sc) (hd : decode (am_by.get mm.1) pc = .ok (.aastore, 1)) (hkd : 102 ≤ kd) (hci : ci < 8) (hrr : vwCl[ci]? = some rr) (ht : (am_tys G)[t0]? = some (am_ca G kd, .object rr.1)) (hi : am_in ω r kd j = true) (hv : am_is ω z (ci, n0) = true) (kk : am_J G mm A p l e R s m args below meth c Q c0 s0 sc AD0 (pc + 1) L S (am_put ω r.toNat j.toNat z)) : am_J G mm A p l e R s m args below meth c Q c0 s0 sc AD0 pc L (.inr (.inr z) :: .inl j :: .inr (.inr r) :: S) ω := by
  intro AD H locs ls cells slots hF hL hS hR hV hc hs hsc
  obtain ⟨h0, n, hq, h1, h2⟩ := am_in_of hi
  obtain ⟨hz0, hqz⟩ := am_is_of hv
  have hz : -9 < z ∧ z < (ω.1.length : Int) := am_okS_h hS
  have hj : am_R32 j := am_okS_h (am_okS_t hS)
  obtain ⟨hA, hW, hP, hD⟩ := id hR
  have hat := am_ws_at (G := G) (AD := AD) hq
  rw [am_enc_q hkd] at hat
  have hatz := am_ws_at (G := G) (AD := AD) hqz
  rw [am_enc_o hci] at hatz
  show W p l e R s m args below meth c H locs cells slots Q (F0 m pc ls (am_mr G AD z :: .int (Int32.ofInt j) :: am_mr G AD r :: S.map (am_mv G AD)))
  rw [am_mr_pos h0, am_mr_pos hz0]
  refine va_astq (D := G.1) (cl := vwCl) (tys := am_tys G) C.1 C.2.1 C.2.2.2.2.2.2.2.2.1 hP hD hV.1 r.toNat t0 z.toNat ci hat ht hatz hrr (nu_in hj h1 h2) hd (fun H1 locs1 hP1 hD1 hS1 => ?_)
  rw [nu_clamp hj h1, show some (AD.getD z.toNat 0) = am_rf AD z from (if_pos hz0).symm] at hP1 hD1
  exact kk AD H1 locs1 ls cells slots hF hL (am_okS_t (am_okS_t (am_okS_t hS))) (am_Rl_put hR hq ((am_okc_q hkd).mpr ⟨by omega, hz.2⟩) (am_upd_q hkd) hP1 hD1) ⟨hS1, hV.2⟩ hc hs hsc
theorem aj_ldc {idx w : Nat} {z : Int} (C : am_Cx G mm A p R s m args meth c sc) (hd : decode (am_by.get mm.1) pc = .ok (.ldc idx, 2)) (hp : am_lk (am_pc.get (am_own mm.1)) idx = some (z, w)) (kk : am_J G mm A p l e R s m args below meth c Q c0 s0 sc AD0 (pc + 2) L (.inl z :: S) ω) : am_J G mm A p l e R s m args below meth c Q c0 s0 sc AD0 pc L S ω := by
  intro AD H locs ls cells slots hF hL hS hR hV hc hs hsc
  obtain ⟨h1, h2⟩ := am_okq_at (am_own_lt mm.1) hp
  refine lv_ldc C.1 C.2.1 C.2.2.2.1 (C.2.2.2.2.1 _ h1) hd ?_
  exact kk AD H locs ls cells slots hF hL (am_okS_c (v := .inl z) h2 hS) hR hV hc hs hsc
theorem aj_ldcw {idx w : Nat} {z : Int} (C : am_Cx G mm A p R s m args meth c sc) (hd : decode (am_by.get mm.1) pc = .ok (.ldc_w idx, 3)) (hp : am_lk (am_pc.get (am_own mm.1)) idx = some (z, w)) (kk : am_J G mm A p l e R s m args below meth c Q c0 s0 sc AD0 (pc + 3) L (.inl z :: S) ω) : am_J G mm A p l e R s m args below meth c Q c0 s0 sc AD0 pc L S ω := by
  intro AD H locs ls cells slots hF hL hS hR hV hc hs hsc
  obtain ⟨h1, h2⟩ := am_okq_at (am_own_lt mm.1) hp
  refine lv_ldcw C.1 C.2.1 C.2.2.2.1 (C.2.2.2.2.1 _ h1) hd ?_
  exact kk AD H locs ls cells slots hF hL (am_okS_c (v := .inl z) h2 hS) hR hV hc hs hsc
theorem aj_ldc2 {idx w : Nat} {z : Int} (C : am_Cx G mm A p R s m args meth c sc) (hd : decode (am_by.get mm.1) pc = .ok (.ldc2_w idx, 3)) (hp : am_lk (am_pl.get (am_own mm.1)) idx = some (z, w)) (kk : am_J G mm A p l e R s m args below meth c Q c0 s0 sc AD0 (pc + 3) L (.inr (.inl z) :: S) ω) : am_J G mm A p l e R s m args below meth c Q c0 s0 sc AD0 pc L S ω := by
  intro AD H locs ls cells slots hF hL hS hR hV hc hs hsc
  obtain ⟨h1, h2⟩ := am_okl_at (am_own_lt mm.1) hp
  refine lv_ldc2 C.1 C.2.1 C.2.2.2.1 (C.2.2.2.2.1 _ h1) hd ?_
  exact kk AD H locs ls cells slots hF hL (am_okS_c (v := .inr (.inl z)) h2 hS) hR hV hc hs hsc
theorem aj_ldcS {idx k w : Nat} (C : am_Cx G mm A p R s m args meth c sc) (hd : decode (am_by.get mm.1) pc = .ok (.ldc idx, 2)) (hp : am_lk (am_ps.get (am_own mm.1)) idx = some (k, w)) (kk : am_J G mm A p l e R s m args below meth c Q c0 s0 sc AD0 (pc + 2) L (.inr (.inr (-3 - (k : Int))) :: S) ω) : am_J G mm A p l e R s m args below meth c Q c0 s0 sc AD0 pc L S ω := by
  intro AD H locs ls cells slots hF hL hS hR hV hc hs hsc
  have h6 := am_okx_at (am_own_lt mm.1) hp
  have hst := C.2.2.2.2.2.2.2.2.2.2.1.2.2.2 _ _ _ _ (am_own_lt mm.1) hp
  refine va_ldcS C.1 C.2.1 C.2.2.2.1 hst hd ?_
  have ev : am_mv G AD (.inr (.inr (-3 - (k : Int)))) = .ref (G.2.2.2.1 k) := by
    show am_mr G AD _ = _
    unfold am_mr
    rw [if_neg (by omega), if_neg (by omega), if_neg (by omega), show (-3 - (-3 - (k : Int))).toNat = k by omega]
  rw [← ev]
  exact kk AD H locs ls cells slots hF hL (am_okS_c (v := .inr (.inr _)) (show -9 < -3 - (k : Int) ∧ -3 - (k : Int) < (ω.1.length : Int) by omega) hS) hR hV hc hs hsc
end AM
