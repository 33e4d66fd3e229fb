theorem am_wds_of {w : Cond} (h : w ∈ lw_tbl) (hg : goodWord w = true) : w ∈ am_wds := List.mem_filter.mpr ⟨h, hg⟩
theorem am_arr_1 : Cond.arrayClass .int ∈ lw_tbl := List.mem_of_getElem? (i := 139) (by decide +kernel)
theorem am_arr_2 : Cond.arrayClass .long ∈ lw_tbl := List.mem_of_getElem? (i := 239) (by decide +kernel)
/-! ===== new cells ===== -/
section AN
variable {G : am_G} {mm : am_M} {A : Nat → Prop} {p : Program} {l : Launch} {e : Env} {R : Room} {s : State} {m : MethodId} {args : Array Value} {below : List Frame} {meth : Method} {c : Code} {Q : State → Prop} {c0 s0 : Nat} {sc : Nat × (Nat → Int)} {AD0 : List Nat} {pc : Nat} {L : am_L} {S : List am_V} {ω : am_W}
theorem am_sl_app (τ τ' : List (Nat × Nat)) : am_sl (τ ++ τ') = am_sl τ + am_sl τ' := by simp [am_sl]
theorem am_words_S (G : am_G) (AD : List Nat) : ∀ S : List am_V, ((S.map (am_mv G AD)).map fun v => v.category).sum = am_words S
  | [] => rfl
  | .inl z :: S => by
    have ih := am_words_S G AD S
    rw [List.map_cons, List.map_cons, List.sum_cons, ih]
    rfl
  | .inr (.inl z) :: S => by
    have ih := am_words_S G AD S
    rw [List.map_cons, List.map_cons, List.sum_cons, ih]
    rfl
  | .inr (.inr z) :: S => by
    have ih := am_words_S G AD S
    rw [List.map_cons, List.map_cons, List.sum_cons, ih]
    show (am_mr G AD z).category + am_words S = 1 + am_words S
    rw [am_cat]
theorem am_oks_a {kd n : Nat} (h1 : 100 ≤ kd) (h2 : kd ≤ 104) (h3 : n < 2147483648) : am_oks (kd, n) := Or.inr ⟨h1, h2, h3⟩
theorem am_kk_new {pc2 : Nat} {q : Nat × Nat} {d : Nat → Int} {AD : List Nat} {H H1 : Heap} {locs : List Loc} {ls : Array Slot} {cells slots x : Nat} {E : va_E} (kk : am_J G mm A p l e R s m args below meth c Q c0 s0 sc AD0 pc2 L (.inr (.inr (ω.1.length : Int)) :: S) (am_new ω q d)) (hF : am_Fr G AD (am_max mm.1) L ls) (hL : am_okL ω.1.length L) (hS : am_okS ω.1.length S) (hR : am_Rl G A AD ω H) (hV : am_VS A s.heap AD0 AD H locs) (hc : cells + c0 = ω.1.length) (hs : slots + s0 = am_sl ω.1) (hsc : ω.2.2 = sc)
    (hq : am_oks q) (hd : ∀ j, am_okc (ω.1.length + 1) q.1 j (d j)) (hE : E = am_enc G (AD ++ [x]) q d) (hP1 : va_P G.1 vwCl (am_ws G AD ω ++ [(x, E)]) H1) (hD1 : va_D A (am_ws G AD ω ++ [(x, E)])) (hS1 : va_S A s.heap H1 locs) :
    W p l e R s m args below meth c H1 locs (cells + 1) (slots + q.2) Q (F0 m pc2 ls (.ref x :: S.map (am_mv G AD))) := by
  rw [am_ws_new hR.1 hR.2.1 hE] at hP1 hD1
  have hl : (am_new ω q d).1.length = ω.1.length + 1 := by
    show (ω.1 ++ [q]).length = _
    simp
  have ev : am_mv G (AD ++ [x]) (.inr (.inr (ω.1.length : Int))) = .ref x := by
    show am_mr G (AD ++ [x]) _ = _
    rw [show am_mr G (AD ++ [x]) (ω.1.length : Int) = .ref ((AD ++ [x]).getD ((ω.1.length : Int)).toNat 0) from if_pos (by omega)]
    rw [Int.toNat_natCast, ← hR.1]
    simp
  have k2 := kk (AD ++ [x]) H1 locs ls (cells + 1) (slots + q.2) (am_Fr_ext [x] hR.1.symm hF hL) (by rw [hl]; exact am_okL_up hL (Nat.le_succ _)) (by
    rw [hl]
    exact am_okS_c (v := .inr (.inr _)) (show -9 < (ω.1.length : Int) ∧ (ω.1.length : Int) < ((ω.1.length + 1 : Nat) : Int) by omega) (am_okS_up hS (Nat.le_succ _))) ⟨by rw [hl]; simp [hR.1], am_okw_new hR.2.1 hq hd, hP1, hD1⟩ ⟨hS1, List.IsPrefix.trans hV.2 (List.prefix_append _ _)⟩ (by rw [hl]; omega) (by show slots + q.2 + s0 = am_sl (ω.1 ++ [q]); rw [am_sl_app]; simp [am_sl] at hs ⊢; omega) hsc
  have k3 : W p l e R s m args below meth c H1 locs (cells + 1) (slots + q.2) Q (F0 m pc2 ls (am_mv G (AD ++ [x]) (.inr (.inr (ω.1.length : Int))) :: S.map (am_mv G (AD ++ [x])))) := k2
  rw [ev, am_map_ext [x] hR.1.symm hS] at k3
  exact k3
theorem am_d0_ok (ci n j : Nat) (h : ci < 8) : am_okc n ci j (am_d0 ci j) := by
  unfold am_okc am_d0
  rw [if_pos h]
  by_cases h2 : am_fk ci j = 2
  · rw [if_pos h2, if_pos h2]; omega
  · rw [if_neg h2, if_neg h2]; unfold am_R32; omega
theorem am_fv_d0 (AD : List Nat) (ci j : Nat) : am_fv AD (am_fk ci j) (am_d0 ci j) = if am_fk ci j = 2 then .null else .int 0 := by
  unfold am_fv am_d0
  by_cases h2 : am_fk ci j = 2
  · rw [if_pos h2, if_pos h2, if_pos h2]; rfl
  · rw [if_neg h2, if_neg h2, if_neg h2]; rfl
theorem aj_new {idx ci w : Nat} (C : am_Cx G mm A p R s m args meth c sc) (hd : decode (am_by.get mm.1) pc = .ok (.new idx, 3)) (hp : am_lk (am_pn.get (am_own mm.1)) idx = some (ci, w)) (hci : ci < 8) (hb : ω.1.length + 1 ≤ c0 + R.cells ∧ am_sl ω.1 + am_nf ci ≤ s0 + R.slots) (kk : am_J G mm A p l e R s m args below meth c Q c0 s0 sc AD0 (pc + 3) L (.inr (.inr (ω.1.length : Int)) :: S) (am_new ω (ci, am_nf ci) (am_d0 ci))) : am_J G mm A p l e R s m args below meth c Q c0 s0 sc AD0 pc L S ω := by
  intro AD H locs ls cells slots hF hL hS hR hV hc hs hsc
  obtain ⟨rr, g1, g2, g3, g4, ⟨ty0, g5, g6⟩, g7, g8⟩ := am_cls hci
  obtain ⟨hA, hW, hP, hD⟩ := id hR
  have hln := am_okn_at (am_own_lt mm.1) hp
  rw [if_pos hci, ← g3] at hln
  have hi1 := am_wds_of (am_ini_c ci hci).1 rfl
  have hi2 := am_wds_of (am_ini_c ci hci).2 rfl
  rw [← g3, ← g2] at hi1
  rw [← g3] at hi2
  have hfs : ∀ j, j < rr.2.2 → defaultValue (ty0 j) = vp_V ((List.range (am_nf ci)).map (fun j => am_fv AD (am_fk ci j) (am_d0 ci j))) j := by
    intro j hj
    have ht := g6 j hj
    rw [g2] at hj
    unfold vp_V
    rw [List.getD_eq_getElem?_getD, List.getElem?_map, List.getElem?_range hj]
    show _ = am_fv AD (am_fk ci j) (am_d0 ci j)
    rw [am_fv_d0]
    match hk : am_fk ci j, ht with
    | 0, ht => cases hty : ty0 j <;> first | (rw [hty, hk] at ht; cases ht; done) | (rw [hty] at ht; cases ht; done) | rfl
    | 1, ht => cases hty : ty0 j <;> first | (rw [hty, hk] at ht; cases ht; done) | (rw [hty] at ht; cases ht; done) | rfl
    | 2, ht => cases hty : ty0 j <;> first | (rw [hty, hk] at ht; cases ht; done) | (rw [hty] at ht; cases ht; done) | rfl
    | n + 3, ht => cases hty : ty0 j <;> (rw [hty] at ht; cases ht)
  refine va_new (D := G.1) (cl := vwCl) (tys := am_tys G) (C := rr.1) (T := rr.2.1) (N := rr.2.2) (Ts := am_wds) C.1 C.2.1 C.2.2.2.2.1 g4 ty0 g5 C.2.2.2.1 (C.2.2.2.2.1 _ hln) (C.2.2.2.2.1 _ hi1) (C.2.2.2.2.1 _ hi2) C.2.2.2.2.2.2.2.2.1 hP hD hV.1 C.2.2.2.2.2.2.2.2.2.2.2.2.2.1 g1 hfs (by omega) (by rw [g2]; omega) hd (fun q H1 hP1 hD1 hS1 => ?_)
  rw [g2]
  refine am_kk_new (q := (ci, am_nf ci)) kk hF hL hS hR hV hc hs hsc (Or.inl ⟨hci, rfl⟩) (fun j => am_d0_ok ci _ j hci) ?_ hP1 hD1 hS1
  rw [am_enc_o hci]
  congr 2
  apply List.map_congr_left
  intro j _
  rw [am_fv_d0, am_fv_d0]
theorem am_cA {cA cB : ClassId} {ty : FieldType} (hK : va_K G.1 vwCl (am_tys G) s) (h2 : va_K G.1 vwCl (am_tys G ++ [(cA, ty)]) s) {t0 : Nat} (ht : (am_tys G)[t0]? = some (cB, ty)) : cA = cB := by
  have a := (h2.2 5 (cA, ty) rfl).2
  have b := (hK.2 t0 _ ht).2
  cases ty with
  | object C =>
    obtain ⟨_, _, _, _, _, h4⟩ := a
    obtain ⟨_, _, _, _, _, h5⟩ := b
    exact Option.some.inj (h4.symm.trans h5)
  | _ => exact Option.some.inj (a.symm.trans b)
theorem aj_newarrayI {n : Int} (C : am_Cx G mm A p R s m args meth c sc) (hd : decode (am_by.get mm.1) pc = .ok (.newarray .int, 2)) (h0 : 0 ≤ n) (h1 : n ≤ 100000) (hb : ω.1.length + 1 ≤ c0 + R.cells ∧ am_sl ω.1 + n.toNat ≤ s0 + R.slots) (kk : am_J G mm A p l e R s m args below meth c Q c0 s0 sc AD0 (pc + 2) L (.inr (.inr (ω.1.length : Int)) :: S) (am_new ω (100, n.toNat) (fun _ => 0))) : am_J G mm A p l e R s m args below meth c Q c0 s0 sc AD0 pc L (.inl n :: S) ω := by
  intro AD H locs ls cells slots hF hL hS hR hV hc hs hsc
  obtain ⟨hA, hW, hP, hD⟩ := id hR
  have hn : am_R32 n := am_okS_h hS
  refine va_newa (D := G.1) (cl := vwCl) (tys := am_tys G) (atype := .int) (ty := .int) (a0 := (n.toNat, .inl (fun _ => 0))) (N' := n.toNat) C.1 C.2.1 (C.2.2.2.2.1 (.arrayClass .int) (am_wds_of am_arr_1 rfl)) rfl C.2.2.2.2.2.2.2.2.1 hP hD hV.1 C.2.2.2.2.2.2.2.2.2.2.2.2.2.1 (fun cA => vp_cell_i cA _ _) (nu_pos hn h0) (nu_clamp hn h0) (show n.toNat * 4 ≤ 536870912 by omega) (by omega) (by omega) hd (fun q cA H1 hK2 hP1 hD1 hS1 => ?_)
  have ec : cA = am_ca G 100 := am_cA C.2.2.2.2.2.2.2.2.1 hK2 (t0 := 0) rfl
  subst ec
  exact am_kk_new (q := (100, n.toNat)) kk hF hL (am_okS_t hS) hR hV hc hs hsc (am_oks_a (by decide) (by decide) (by omega)) (fun j => show am_R32 0 by unfold am_R32; omega) (by rw [am_enc_i]; rfl) hP1 hD1 hS1
theorem aj_newarrayL {n : Int} (C : am_Cx G mm A p R s m args meth c sc) (hd : decode (am_by.get mm.1) pc = .ok (.newarray .long, 2)) (h0 : 0 ≤ n) (h1 : n ≤ 100000) (hb : ω.1.length + 1 ≤ c0 + R.cells ∧ am_sl ω.1 + n.toNat ≤ s0 + R.slots) (kk : am_J G mm A p l e R s m args below meth c Q c0 s0 sc AD0 (pc + 2) L (.inr (.inr (ω.1.length : Int)) :: S) (am_new ω (101, n.toNat) (fun _ => 0))) : am_J G mm A p l e R s m args below meth c Q c0 s0 sc AD0 pc L (.inl n :: S) ω := by
  intro AD H locs ls cells slots hF hL hS hR hV hc hs hsc
  obtain ⟨hA, hW, hP, hD⟩ := id hR
  have hn : am_R32 n := am_okS_h hS
  refine va_newa (D := G.1) (cl := vwCl) (tys := am_tys G) (atype := .long) (ty := .long) (a0 := (n.toNat, .inr (.inl (fun _ => 0)))) (N' := n.toNat) C.1 C.2.1 (C.2.2.2.2.1 (.arrayClass .long) (am_wds_of am_arr_2 rfl)) rfl C.2.2.2.2.2.2.2.2.1 hP hD hV.1 C.2.2.2.2.2.2.2.2.2.2.2.2.2.1 (fun cA => vp_cell_l cA _ _) (nu_pos hn h0) (nu_clamp hn h0) (show n.toNat * 8 ≤ 536870912 by omega) (by omega) (by omega) hd (fun q cA H1 hK2 hP1 hD1 hS1 => ?_)
  have ec : cA = am_ca G 101 := am_cA C.2.2.2.2.2.2.2.2.1 hK2 (t0 := 1) rfl
  subst ec
  exact am_kk_new (q := (101, n.toNat)) kk hF hL (am_okS_t hS) hR hV hc hs hsc (am_oks_a (by decide) (by decide) (by omega)) (fun j => show am_R64 0 by unfold am_R64; omega) (by rw [am_enc_l]; rfl) hP1 hD1 hS1
theorem aj_anewarrayV {idx w : Nat} {n : Int} (C : am_Cx G mm A p R s m args meth c sc) (hd : decode (am_by.get mm.1) pc = .ok (.anewarray idx, 3)) (hp : am_lk (am_pn.get (am_own mm.1)) idx = some (4, w)) (h0 : 0 ≤ n) (h1 : n ≤ 100000) (hb : ω.1.length + 1 ≤ c0 + R.cells ∧ am_sl ω.1 + n.toNat ≤ s0 + R.slots) (kk : am_J G mm A p l e R s m args below meth c Q c0 s0 sc AD0 (pc + 3) L (.inr (.inr (ω.1.length : Int)) :: S) (am_new ω (102, n.toNat) (fun _ => -1))) : am_J G mm A p l e R s m args below meth c Q c0 s0 sc AD0 pc L (.inl n :: S) ω := by
  intro AD H locs ls cells slots hF hL hS hR hV hc hs hsc
  obtain ⟨hA, hW, hP, hD⟩ := id hR
  have hn : am_R32 n := am_okS_h hS
  have hln := am_okn_at (am_own_lt mm.1) hp
  rw [if_pos (by decide), show am_cn 4 = RX4 from rfl] at hln
  refine va_newq (D := G.1) (cl := vwCl) (tys := am_tys G) (C := RX4) (N' := n.toNat) C.1 C.2.1 C.2.2.2.1 (C.2.2.2.2.1 _ hln) C.2.2.2.2.2.2.2.2.2.2.2.2.2.2.2.1 C.2.2.2.2.2.2.2.2.1 hP hD hV.1 C.2.2.2.2.2.2.2.2.2.2.2.2.2.1 (nu_pos hn h0) (nu_clamp hn h0) (by omega) (by omega) (by omega) hd (fun q cA H1 hK2 hP1 hD1 hS1 => ?_)
  have ec : cA = am_ca G 102 := am_cA C.2.2.2.2.2.2.2.2.1 hK2 (t0 := 2) rfl
  subst ec
  exact am_kk_new (q := (102, n.toNat)) kk hF hL (am_okS_t hS) hR hV hc hs hsc (am_oks_a (by decide) (by decide) (by omega)) (fun j => (am_okc_q (kd := 102) (by decide)).mpr (by omega)) (by rw [am_enc_q (by decide)]; rfl) hP1 hD1 hS1
theorem aj_anewarrayS {idx w : Nat} {n : Int} (C : am_Cx G mm A p R s m args meth c sc) (hd : decode (am_by.get mm.1) pc = .ok (.anewarray idx, 3)) (hp : am_lk (am_pn.get (am_own mm.1)) idx = some (2, w)) (h0 : 0 ≤ n) (h1 : n ≤ 100000) (hb : ω.1.length + 1 ≤ c0 + R.cells ∧ am_sl ω.1 + n.toNat ≤ s0 + R.slots) (kk : am_J G mm A p l e R s m args below meth c Q c0 s0 sc AD0 (pc + 3) L (.inr (.inr (ω.1.length : Int)) :: S) (am_new ω (103, n.toNat) (fun _ => -1))) : am_J G mm A p l e R s m args below meth c Q c0 s0 sc AD0 pc L (.inl n :: S) ω := by
  intro AD H locs ls cells slots hF hL hS hR hV hc hs hsc
  obtain ⟨hA, hW, hP, hD⟩ := id hR
  have hn : am_R32 n := am_okS_h hS
  have hln := am_okn_at (am_own_lt mm.1) hp
  rw [if_pos (by decide), show am_cn 2 = RX2 from rfl] at hln
  refine va_newq (D := G.1) (cl := vwCl) (tys := am_tys G) (C := RX2) (N' := n.toNat) C.1 C.2.1 C.2.2.2.1 (C.2.2.2.2.1 _ hln) C.2.2.2.2.2.2.2.2.2.2.2.2.2.2.2.2.1 C.2.2.2.2.2.2.2.2.1 hP hD hV.1 C.2.2.2.2.2.2.2.2.2.2.2.2.2.1 (nu_pos hn h0) (nu_clamp hn h0) (by omega) (by omega) (by omega) hd (fun q cA H1 hK2 hP1 hD1 hS1 => ?_)
  have ec : cA = am_ca G 103 := am_cA C.2.2.2.2.2.2.2.2.1 hK2 (t0 := 3) rfl
  subst ec
  exact am_kk_new (q := (103, n.toNat)) kk hF hL (am_okS_t hS) hR hV hc hs hsc (am_oks_a (by decide) (by decide) (by omega)) (fun j => (am_okc_q (kd := 103) (by decide)).mpr (by omega)) (by rw [am_enc_q (by decide)]; rfl) hP1 hD1 hS1
theorem am_ws_newg {AD : List Nat} {x n k : Nat} {r : Nat → Nat} (hn : AD.length = ω.1.length) (hw : am_okw ω) (h : ∀ i, i < n → (AD ++ (x :: (List.range n).map r)).getD (ω.1.length + 1 + i) 0 = r i) (hx : (AD ++ (x :: (List.range n).map r)).getD ω.1.length 0 = x) : am_ws G AD ω ++ [(x, .inl (am_ca G 104, n, .inr (.inr (.inr (.inr (fun i => if i < n then some (r i) else none))))))] ++ (List.range n).map (fun i => (r i, .inl (am_ca G 100, k, .inl (fun _ => 0)))) = am_ws G (AD ++ (x :: (List.range n).map r)) (am_newg ω n k) := by
  have hlen : (am_newg ω n k).1.length = ω.1.length + 1 + n := by
    show (ω.1 ++ ((104, n) :: List.replicate n (100, k))).length = _
    simp; omega
  apply List.ext_getElem?
  intro i
  by_cases h1 : i < ω.1.length
  · rw [List.append_assoc, List.getElem?_append_left (by rw [am_ws_len]; exact h1)]
    have hq : ω.1[i]? = some ω.1[i] := List.getElem?_eq_getElem h1
    have hq2 : (am_newg ω n k).1[i]? = some ω.1[i] := by
      show (ω.1 ++ _)[i]? = _
      rw [List.getElem?_append_left h1]; exact hq
    rw [am_ws_at hq, am_ws_at hq2]
    have e1 : (AD ++ (x :: (List.range n).map r)).getD i 0 = AD.getD i 0 := by
      simp only [List.getD_eq_getElem?_getD]
      rw [List.getElem?_append_left (by omega)]
    have e2 : (am_newg ω n k).2.1 i = ω.2.1 i := by
      funext j
      show (if i = ω.1.length then _ else if ω.1.length < i ∧ i ≤ ω.1.length + n then _ else ω.2.1 i j) = _
      rw [if_neg (by omega), if_neg (by omega)]
    rw [e1, e2, am_enc_ext _ hn.symm ((hw.1 i _ hq).2)]
  · by_cases h2 : i = ω.1.length
    · subst h2
      rw [List.append_assoc, List.getElem?_append_right (by rw [am_ws_len]; exact Nat.le_refl _), am_ws_len, Nat.sub_self]
      have hq2 : (am_newg ω n k).1[ω.1.length]? = some (104, n) := by
        show (ω.1 ++ _)[ω.1.length]? = _
        simp
      rw [am_ws_at hq2, hx, am_enc_q (by decide)]
      refine congrArg (fun f : Nat → Option Nat => some (x, (.inl (am_ca G 104, n, .inr (.inr (.inr (.inr f)))) : va_E))) (funext fun j => ?_)
      show _ = am_rf _ (if ω.1.length = ω.1.length then (if j < n then ((ω.1.length + 1 + j : Nat) : Int) else -1) else _)
      rw [if_pos rfl]
      by_cases hj : j < n
      · rw [if_pos hj, if_pos hj]
        unfold am_rf
        rw [if_pos (by omega), Int.toNat_natCast, h j hj]
      · rw [if_neg hj, if_neg hj]
        rfl
    · by_cases h3 : i < ω.1.length + 1 + n
      · obtain ⟨j, rfl⟩ : ∃ j, i = ω.1.length + 1 + j := ⟨i - (ω.1.length + 1), by omega⟩
        have hj : j < n := by omega
        rw [List.getElem?_append_right (by simp [am_ws_len])]
        have e0 : ω.1.length + 1 + j - (am_ws G AD ω ++ [(x, (.inl (am_ca G 104, n, .inr (.inr (.inr (.inr (fun i => if i < n then some (r i) else none))))) : va_E))]).length = j := by simp [am_ws_len]
        rw [e0, List.getElem?_map, List.getElem?_range hj]
        have hq2 : (am_newg ω n k).1[ω.1.length + 1 + j]? = some (100, k) := by
          show (ω.1 ++ ((104, n) :: List.replicate n (100, k)))[ω.1.length + 1 + j]? = _
          rw [List.getElem?_append_right (by omega), show ω.1.length + 1 + j - ω.1.length = j + 1 by omega, List.getElem?_cons_succ, List.getElem?_replicate, if_pos hj]
        rw [am_ws_at hq2, h j hj, am_enc_i]
        refine congrArg (fun f : Nat → Int32 => some (r j, (.inl (am_ca G 100, k, .inl f) : va_E))) (funext fun t => ?_)
        show (0 : Int32) = Int32.ofInt (if ω.1.length + 1 + j = ω.1.length then _ else if ω.1.length < ω.1.length + 1 + j ∧ ω.1.length + 1 + j ≤ ω.1.length + n then 0 else _)
        rw [if_neg (by omega), if_pos (by omega)]
        rfl
      · rw [List.getElem?_eq_none (by simp [am_ws_len]; omega), List.getElem?_eq_none (by rw [am_ws_len, hlen]; omega)]
theorem am_okw_newg {n k : Nat} (hw : am_okw ω) (hk : k < 2147483648) (hn : n < 2147483648) : am_okw (am_newg ω n k) := by
  have hlen : (am_newg ω n k).1.length = ω.1.length + 1 + n := by
    show (ω.1 ++ ((104, n) :: List.replicate n (100, k))).length = _
    simp; omega
  refine ⟨fun i x hx => ?_, hw.2⟩
  rw [hlen]
  have hx : (ω.1 ++ ((104, n) :: List.replicate n (100, k)))[i]? = some x := hx
  by_cases h1 : i < ω.1.length
  · rw [List.getElem?_append_left h1] at hx
    obtain ⟨g1, g2⟩ := hw.1 i x hx
    refine ⟨g1, fun j => ?_⟩
    show am_okc _ x.1 j (if i = ω.1.length then _ else if ω.1.length < i ∧ i ≤ ω.1.length + n then _ else ω.2.1 i j)
    rw [if_neg (by omega), if_neg (by omega)]
    exact am_okc_up (g2 j) (by omega)
  · rw [List.getElem?_append_right (by omega)] at hx
    by_cases h2 : i = ω.1.length
    · subst h2
      rw [Nat.sub_self] at hx
      have e : (104, n) = x := Option.some.inj hx
      subst e
      refine ⟨am_oks_a (by decide) (by decide) hn, fun j => (am_okc_q (kd := 104) (by decide)).mpr ?_⟩
      show -1 ≤ (if ω.1.length = ω.1.length then (if j < n then ((ω.1.length + 1 + j : Nat) : Int) else -1) else _) ∧ (if ω.1.length = ω.1.length then (if j < n then ((ω.1.length + 1 + j : Nat) : Int) else -1) else _) < _
      rw [if_pos rfl]
      split <;> omega
    · obtain ⟨t, ht⟩ : ∃ t, i - ω.1.length = t + 1 := ⟨i - ω.1.length - 1, by omega⟩
      rw [ht, List.getElem?_cons_succ, List.getElem?_replicate] at hx
      by_cases ht2 : t < n
      · rw [if_pos ht2] at hx
        have e : (100, k) = x := Option.some.inj hx
        subst e
        refine ⟨am_oks_a (by decide) (by decide) hk, fun j => ?_⟩
        show am_R32 (if i = ω.1.length then _ else if ω.1.length < i ∧ i ≤ ω.1.length + n then 0 else _)
        rw [if_neg h2, if_pos (by omega)]
        unfold am_R32; omega
      · rw [if_neg ht2] at hx
        cases hx
theorem aj_multianewarray {idx w : Nat} {n k : Int} (C : am_Cx G mm A p R s m args meth c sc) (hd : decode (am_by.get mm.1) pc = .ok (.multianewarray idx 2, 4)) (hp : am_lk (am_pn.get (am_own mm.1)) idx = some (104, w)) (h0 : 0 ≤ n) (h1 : n ≤ 1000) (h2 : 0 ≤ k) (h3 : k ≤ 100000) (hb : ω.1.length + (1 + n.toNat) ≤ c0 + R.cells ∧ am_sl ω.1 + (n.toNat + n.toNat * k.toNat) ≤ s0 + R.slots) (kk : am_J G mm A p l e R s m args below meth c Q c0 s0 sc AD0 (pc + 4) L (.inr (.inr (ω.1.length : Int)) :: S) (am_newg ω n.toNat k.toNat)) : am_J G mm A p l e R s m args below meth c Q c0 s0 sc AD0 pc L (.inl k :: .inl n :: S) ω := by
  intro AD H locs ls cells slots hF hL hS hR hV hc hs hsc
  obtain ⟨hA, hW, hP, hD⟩ := id hR
  have hk : am_R32 k := am_okS_h hS
  have hn : am_R32 n := am_okS_h (am_okS_t hS)
  have hS2 := am_okS_t (am_okS_t hS)
  have hln := am_okn_at (am_own_lt mm.1) hp
  rw [if_neg (by decide)] at hln
  have hcy : s.vm.findClass (FieldType.array .int).toString = some (am_ca G 100) := (C.2.2.2.2.2.2.2.2.1.2 0 _ rfl).2
  have hP' : va_P G.1 vwCl (am_ws G AD ω ++ va_pl [] (fun _ => (.inr (0, []) : va_E))) H := by rw [show am_ws G AD ω ++ va_pl [] (fun _ => (.inr (0, []) : va_E)) = am_ws G AD ω from List.append_nil _]; exact hP
  have hD' : va_D A (am_ws G AD ω ++ va_pl [] (fun _ => (.inr (0, []) : va_E))) := by rw [show am_ws G AD ω ++ va_pl [] (fun _ => (.inr (0, []) : va_E)) = am_ws G AD ω from List.append_nil _]; exact hD
  refine va_mna (D := G.1) (cl := vwCl) (tys := am_tys G) (ty := .int) (X := am_ws G AD ω) (L := []) (N' := n.toNat) (K' := k.toNat) (z := (k.toNat, .inl (fun _ => 0))) C.1 C.2.1 C.2.2.2.1 (C.2.2.2.2.1 _ hln) C.2.2.2.2.2.2.2.2.2.2.2.2.2.2.2.2.2 (C.2.2.2.2.1 (.arrayClass .int) (am_wds_of am_arr_1 rfl)) hcy C.2.2.2.2.2.2.2.2.1 hP' hD' hV.1 C.2.2.2.2.2.2.2.2.2.2.2.2.2.1 (nu_pos hn h0) (nu_pos hk h2) (nu_clamp hn h0) (nu_clamp hk h2) (by omega) (show k.toNat * 4 ≤ 536870912 by omega) (by omega) rfl rfl (by omega) (by omega) (fun cA => ?_) hd (fun x r cA H1 hinj hnl hK2 hP1 hD1 hS1 => ?_)
  · rw [show vp_cell cA (k.toNat, .inl (fun _ => 0)) = arrV cA k.toNat (fun _ => .int 0) from rfl, ← arrV_new]
    rfl
  have ec : cA = am_ca G 104 := am_cA C.2.2.2.2.2.2.2.2.1 hK2 (t0 := 4) rfl
  subst ec
  have hl : (am_newg ω n.toNat k.toNat).1.length = ω.1.length + 1 + n.toNat := by
    show (ω.1 ++ ((104, n.toNat) :: List.replicate n.toNat (100, k.toNat))).length = _
    simp; omega
  have er : va_pl ([] ++ (List.range n.toNat).map r) (vr_up (fun _ => (.inr (0, []) : va_E)) ((List.range n.toNat).map r) (.inl (am_ca G 100, k.toNat, .inl (fun _ => 0)))) = (List.range n.toNat).map (fun i => (r i, .inl (am_ca G 100, k.toNat, .inl (fun _ => 0)))) := by
    rw [List.nil_append]
    unfold va_pl
    rw [List.map_map]
    apply List.map_congr_left
    intro i hi
    show (r i, vr_up _ _ _ (r i)) = _
    rw [vr_up_in (List.mem_map_of_mem hi)]
  have g1 : ∀ i, i < n.toNat → (AD ++ (x :: (List.range n.toNat).map r)).getD (ω.1.length + 1 + i) 0 = r i := by
    intro i hi
    rw [← hR.1, List.getD_eq_getElem?_getD, List.getElem?_append_right (by omega), show AD.length + 1 + i - AD.length = i + 1 by omega, List.getElem?_cons_succ, List.getElem?_map, List.getElem?_range hi]
    rfl
  have g2 : (AD ++ (x :: (List.range n.toNat).map r)).getD ω.1.length 0 = x := by
    rw [← hR.1]
    simp
  rw [er, am_ws_newg hR.1 hR.2.1 g1 g2] at hP1 hD1
  have ev : am_mv G (AD ++ (x :: (List.range n.toNat).map r)) (.inr (.inr (ω.1.length : Int))) = .ref x := by
    show am_mr G _ _ = _
    rw [show am_mr G (AD ++ (x :: (List.range n.toNat).map r)) (ω.1.length : Int) = .ref ((AD ++ (x :: (List.range n.toNat).map r)).getD ((ω.1.length : Int)).toNat 0) from if_pos (by omega), Int.toNat_natCast, g2]
  have k2 := kk (AD ++ (x :: (List.range n.toNat).map r)) H1 locs ls (cells + 1 + n.toNat) (slots + n.toNat + n.toNat * k.toNat) (am_Fr_ext _ hR.1.symm hF hL) (by rw [hl]; exact am_okL_up hL (by omega)) (by
    rw [hl]
    exact am_okS_c (v := .inr (.inr _)) (show -9 < (ω.1.length : Int) ∧ (ω.1.length : Int) < ((ω.1.length + 1 + n.toNat : Nat) : Int) by omega) (am_okS_up hS2 (by omega))) ⟨by rw [hl]; simp [hR.1]; omega, am_okw_newg hR.2.1 (by omega) (by omega), hP1, hD1⟩ ⟨hS1, List.IsPrefix.trans hV.2 (List.prefix_append _ _)⟩ (by rw [hl]; omega) (by
    show slots + n.toNat + n.toNat * k.toNat + s0 = am_sl (ω.1 ++ ((104, n.toNat) :: List.replicate n.toNat (100, k.toNat)))
    rw [am_sl_app]
    have : am_sl ((104, n.toNat) :: List.replicate n.toNat (100, k.toNat)) = n.toNat + n.toNat * k.toNat := by simp [am_sl]
    omega) hsc
  have k3 : W p l e R s m args below meth c H1 locs (cells + 1 + n.toNat) (slots + n.toNat + n.toNat * k.toNat) Q (F0 m (pc + 4) ls (am_mv G (AD ++ (x :: (List.range n.toNat).map r)) (.inr (.inr (ω.1.length : Int))) :: S.map (am_mv G (AD ++ (x :: (List.range n.toNat).map r))))) := k2
  rw [ev, am_map_ext _ hR.1.symm hS2] at k3
  exact k3
end AN
