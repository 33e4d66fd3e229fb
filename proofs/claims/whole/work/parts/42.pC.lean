theorem pX1_init_0 (l0 l1 : Int) (ω : am_W) (h1 : 0 ≤ l0) : am_run (4, 0) 0 ([some (.inr (.inr l0)), some (.inr (.inr l1))], [], ω) = if am_is (am_new ω (100, 120) (fun _ => 0)) l0 (1, 15) = true then (am_run (4, 0) 12 ([some (.inr (.inr l0)), some (.inr (.inr l1))], [], am_put (am_new ω (100, 120) (fun _ => 0)) l0.toNat 1 (((ω).1.length : Int)))) else none := by
  refine Eq.trans (rr_aload_n rfl rfl) ?_
  refine Eq.trans (rr_objInit rfl rfl rfl (decide_eq_true h1) rfl) ?_
  refine Eq.trans (rr_aload_n rfl rfl) ?_
  refine Eq.trans (rr_bipush rfl rfl) ?_
  refine Eq.trans (rr_newarrayI rfl rfl) ?_
  refine ck_it (fun h => rr_putfieldr rfl rfl (by rw [Bool.and_eq_true, Bool.and_eq_true]; exact ⟨rfl, rfl, decide_eq_true (by omega)⟩) h) (fun h => rr_putfieldr_no rfl rfl h) (fun h2 => ?_)
  rfl
theorem pX1_init_12 (l0 l1 : Int) (ω : am_W) : am_run (4, 0) 12 ([some (.inr (.inr l0)), some (.inr (.inr l1))], [], ω) = if am_is (am_newg ω 3 120) l0 (1, 15) = true then (am_run (4, 0) 23 ([some (.inr (.inr l0)), some (.inr (.inr l1))], [], am_put (am_newg ω 3 120) l0.toNat 3 (((ω).1.length : Int)))) else none := by
  refine Eq.trans (rr_aload_n rfl rfl) ?_
  refine Eq.trans (rr_iconst rfl rfl) ?_
  refine Eq.trans (rr_bipush rfl rfl) ?_
  refine Eq.trans (rr_multianewarray rfl rfl rfl) ?_
  refine ck_it (fun h => rr_putfieldr rfl rfl (by rw [Bool.and_eq_true, Bool.and_eq_true]; exact ⟨rfl, rfl, decide_eq_true (by omega)⟩) h) (fun h => rr_putfieldr_no rfl rfl h) (fun h1 => ?_)
  rfl
theorem pX1_init_23 (l0 l1 : Int) (ω : am_W) : am_run (4, 0) 23 ([some (.inr (.inr l0)), some (.inr (.inr l1))], [], ω) = if am_is (am_newg ω 3 120) l0 (1, 15) = true then (am_run (4, 0) 34 ([some (.inr (.inr l0)), some (.inr (.inr l1))], [], am_put (am_newg ω 3 120) l0.toNat 4 (((ω).1.length : Int)))) else none := by
  refine Eq.trans (rr_aload_n rfl rfl) ?_
  refine Eq.trans (rr_iconst rfl rfl) ?_
  refine Eq.trans (rr_bipush rfl rfl) ?_
  refine Eq.trans (rr_multianewarray rfl rfl rfl) ?_
  refine ck_it (fun h => rr_putfieldr rfl rfl (by rw [Bool.and_eq_true, Bool.and_eq_true]; exact ⟨rfl, rfl, decide_eq_true (by omega)⟩) h) (fun h => rr_putfieldr_no rfl rfl h) (fun h1 => ?_)
  rfl
theorem pX1_init_34 (l0 l1 : Int) (ω : am_W) : am_run (4, 0) 34 ([some (.inr (.inr l0)), some (.inr (.inr l1))], [], ω) = if am_is (am_newg ω 3 120) l0 (1, 15) = true then (am_run (4, 0) 45 ([some (.inr (.inr l0)), some (.inr (.inr l1))], [], am_put (am_newg ω 3 120) l0.toNat 5 (((ω).1.length : Int)))) else none := by
  refine Eq.trans (rr_aload_n rfl rfl) ?_
  refine Eq.trans (rr_iconst rfl rfl) ?_
  refine Eq.trans (rr_bipush rfl rfl) ?_
  refine Eq.trans (rr_multianewarray rfl rfl rfl) ?_
  refine ck_it (fun h => rr_putfieldr rfl rfl (by rw [Bool.and_eq_true, Bool.and_eq_true]; exact ⟨rfl, rfl, decide_eq_true (by omega)⟩) h) (fun h => rr_putfieldr_no rfl rfl h) (fun h1 => ?_)
  rfl
theorem pX1_init_45 (l0 l1 : Int) (ω : am_W) : am_run (4, 0) 45 ([some (.inr (.inr l0)), some (.inr (.inr l1))], [], ω) = if am_is (am_newg ω 7 1320) l0 (1, 15) = true then (am_run (4, 0) 58 ([some (.inr (.inr l0)), some (.inr (.inr l1))], [], am_put (am_newg ω 7 1320) l0.toNat 6 (((ω).1.length : Int)))) else none := by
  refine Eq.trans (rr_aload_n rfl rfl) ?_
  refine Eq.trans (rr_bipush rfl rfl) ?_
  refine Eq.trans (rr_sipush rfl rfl) ?_
  refine Eq.trans (rr_multianewarray rfl rfl rfl) ?_
  refine ck_it (fun h => rr_putfieldr rfl rfl (by rw [Bool.and_eq_true, Bool.and_eq_true]; exact ⟨rfl, rfl, decide_eq_true (by omega)⟩) h) (fun h => rr_putfieldr_no rfl rfl h) (fun h1 => ?_)
  rfl
theorem pX1_init_58 (l0 l1 : Int) (ω : am_W) : am_run (4, 0) 58 ([some (.inr (.inr l0)), some (.inr (.inr l1))], [], ω) = if am_is (am_new ω (100, 7320) (fun _ => 0)) l0 (1, 15) = true then (am_run (4, 0) 67 ([some (.inr (.inr l0)), some (.inr (.inr l1))], [], am_put (am_new ω (100, 7320) (fun _ => 0)) l0.toNat 7 (((ω).1.length : Int)))) else none := by
  refine Eq.trans (rr_aload_n rfl rfl) ?_
  refine Eq.trans (rr_sipush rfl rfl) ?_
  refine Eq.trans (rr_newarrayI rfl rfl) ?_
  refine ck_it (fun h => rr_putfieldr rfl rfl (by rw [Bool.and_eq_true, Bool.and_eq_true]; exact ⟨rfl, rfl, decide_eq_true (by omega)⟩) h) (fun h => rr_putfieldr_no rfl rfl h) (fun h1 => ?_)
  rfl
theorem pX1_init_67 (l0 l1 : Int) (ω : am_W) : am_run (4, 0) 67 ([some (.inr (.inr l0)), some (.inr (.inr l1))], [], ω) = if am_is (am_new ω (100, 3) (fun _ => 0)) l0 (1, 15) = true then (am_run (4, 0) 74 ([some (.inr (.inr l0)), some (.inr (.inr l1))], [], am_put (am_new ω (100, 3) (fun _ => 0)) l0.toNat 8 (((ω).1.length : Int)))) else none := by
  refine Eq.trans (rr_aload_n rfl rfl) ?_
  refine Eq.trans (rr_iconst rfl rfl) ?_
  refine Eq.trans (rr_newarrayI rfl rfl) ?_
  refine ck_it (fun h => rr_putfieldr rfl rfl (by rw [Bool.and_eq_true, Bool.and_eq_true]; exact ⟨rfl, rfl, decide_eq_true (by omega)⟩) h) (fun h => rr_putfieldr_no rfl rfl h) (fun h1 => ?_)
  rfl
theorem pX1_init_74 (l0 l1 : Int) (ω : am_W) : am_run (4, 0) 74 ([some (.inr (.inr l0)), some (.inr (.inr l1))], [], ω) = if am_is (am_new ω (100, 3) (fun _ => 0)) l0 (1, 15) = true then (am_run (4, 0) 81 ([some (.inr (.inr l0)), some (.inr (.inr l1))], [], am_put (am_new ω (100, 3) (fun _ => 0)) l0.toNat 9 (((ω).1.length : Int)))) else none := by
  refine Eq.trans (rr_aload_n rfl rfl) ?_
  refine Eq.trans (rr_iconst rfl rfl) ?_
  refine Eq.trans (rr_newarrayI rfl rfl) ?_
  refine ck_it (fun h => rr_putfieldr rfl rfl (by rw [Bool.and_eq_true, Bool.and_eq_true]; exact ⟨rfl, rfl, decide_eq_true (by omega)⟩) h) (fun h => rr_putfieldr_no rfl rfl h) (fun h1 => ?_)
  rfl
theorem pX1_init_81 (l0 l1 : Int) (ω : am_W) (h1 : -1 ≤ l1) (h2 : am_is ω l0 (1, 15) = true) : am_run (4, 0) 81 ([some (.inr (.inr l0)), some (.inr (.inr l1))], [], ω) = some (none, am_put ω l0.toNat 0 l1) := by
  refine Eq.trans (rr_aload_n rfl rfl) ?_
  refine Eq.trans (rr_aload_n rfl rfl) ?_
  refine Eq.trans (rr_putfieldr rfl rfl (by rw [Bool.and_eq_true, Bool.and_eq_true]; exact ⟨rfl, rfl, decide_eq_true (h1)⟩) h2) ?_
  exact rr_return rfl rfl
theorem pX1_fewestDrops_0 (l0 l1 l2 l3 : Int) (ω : am_W) (h1 : am_is ω l0 (1, 15) = true) : am_run (5, 0) 0 ([some (.inr (.inr l0)), some (.inr (.inr l1)), some (.inl l2), some (.inl l3), none], [], ω) = am_bv (am_run (9, 0) 0 ([some (.inr (.inr l0)), some (.inr (.inr l1)), some (.inl l2), some (.inl 999999), none], [], ω)) (fun ω1 => if am_is ω1 l1 (4, 5) = true then (am_run (5, 0) 14 ([some (.inr (.inr l0)), some (.inr (.inr l1)), some (.inl l2), some (.inl l3), some (.inl (am_get ω1 l1.toNat 4))], [], ω1)) else none) := by
  refine Eq.trans (rr_aload_n rfl rfl) ?_
  refine Eq.trans (rr_aload_n rfl rfl) ?_
  refine Eq.trans (rr_iload_n rfl rfl) ?_
  refine Eq.trans (rr_ldc rfl rfl) ?_
  refine Eq.trans (rr_invV0v (S' := []) (L' := [some (.inr (.inr l0)), some (.inr (.inr l1)), some (.inl l2), some (.inl 999999), none]) (m' := (9, 0)) rfl rfl rfl rfl rfl rfl h1) ?_
  refine bv_cg (fun ω1 => ?_)
  refine Eq.trans (rr_aload_n rfl rfl) ?_
  refine ck_it (fun h => rr_getfi rfl rfl rfl h) (fun h => rr_getfield_no rfl rfl h) (fun h2 => ?_)
  refine Eq.trans (rr_istore (L' := [some (.inr (.inr l0)), some (.inr (.inr l1)), some (.inl l2), some (.inl l3), some (.inl (am_get ω1 l1.toNat 4))]) rfl rfl) ?_
  rfl
theorem pX1_fewestDrops_14 (l0 l1 l2 l3 l4 : Int) (ω : am_W) (h1 : am_is ω l0 (1, 15) = true) : am_run (5, 0) 14 ([some (.inr (.inr l0)), some (.inr (.inr l1)), some (.inl l2), some (.inl l3), some (.inl l4)], [], ω) = if l3 < l4 then (some (some (.inl (am_get ω l0.toNat 13)), ω)) else (if (am_get ω l0.toNat 12) < 0 then (some (some (.inl (am_get ω l0.toNat 13)), ω)) else (am_bv (am_run (13, 0) 0 ([some (.inr (.inr l0)), some (.inl l4), none, none, none, none, none], [], ω)) (fun ω1 => am_run (5, 0) 14 ([some (.inr (.inr l0)), some (.inr (.inr l1)), some (.inl l2), some (.inl l3), some (.inl (am_w (l4 + 1)))], [], ω1)))) := by
  refine Eq.trans (rr_iload rfl rfl) ?_
  refine Eq.trans (rr_iload_n rfl rfl) ?_
  refine Eq.trans (rr_icmp_gt rfl rfl) (it_cg (fun _ => ?_) (fun _ => ?_))
  · refine Eq.trans (rr_aload_n rfl rfl) ?_
    refine Eq.trans (rr_getfi rfl rfl rfl h1) ?_
    exact rr_ireturn rfl rfl
  · refine Eq.trans (rr_aload_n rfl rfl) ?_
    refine Eq.trans (rr_getfi rfl rfl rfl h1) ?_
    refine Eq.trans (rr_if_lt rfl rfl) (it_cg (fun _ => ?_) (fun _ => ?_))
    · refine Eq.trans (rr_aload_n rfl rfl) ?_
      refine Eq.trans (rr_getfi rfl rfl rfl h1) ?_
      exact rr_ireturn rfl rfl
    · refine Eq.trans (rr_aload_n rfl rfl) ?_
      refine Eq.trans (rr_iload rfl rfl) ?_
      refine Eq.trans (rr_invV0v (S' := []) (L' := [some (.inr (.inr l0)), some (.inl l4), none, none, none, none, none]) (m' := (13, 0)) rfl rfl rfl rfl rfl rfl h1) ?_
      refine bv_cg (fun ω1 => ?_)
      refine Eq.trans (rr_iinc (L' := [some (.inr (.inr l0)), some (.inr (.inr l1)), some (.inl l2), some (.inl l3), some (.inl (am_w (l4 + 1)))]) rfl rfl rfl) ?_
      refine Eq.trans (rr_goto rfl rfl) ?_
      rfl
theorem pX1_firstStep_0 (l0 l1 l2 : Int) (ω : am_W) (h1 : am_is ω l1 (4, 5) = true) (h2 : am_is ω l0 (1, 15) = true) : am_run (6, 0) 0 ([some (.inr (.inr l0)), some (.inr (.inr l1)), some (.inl l2), none], [], ω) = am_bv (am_run (9, 0) 0 ([some (.inr (.inr l0)), some (.inr (.inr l1)), some (.inl l2), some (.inl (am_get ω l1.toNat 3)), none], [], ω)) (fun ω1 => if am_is ω1 l1 (4, 5) = true then (am_run (6, 0) 15 ([some (.inr (.inr l0)), some (.inr (.inr l1)), some (.inl l2), some (.inl (am_get ω1 l1.toNat 4))], [], ω1)) else none) := by
  refine Eq.trans (rr_aload_n rfl rfl) ?_
  refine Eq.trans (rr_aload_n rfl rfl) ?_
  refine Eq.trans (rr_iload_n rfl rfl) ?_
  refine Eq.trans (rr_aload_n rfl rfl) ?_
  refine Eq.trans (rr_getfi rfl rfl rfl h1) ?_
  refine Eq.trans (rr_invV0v (S' := []) (L' := [some (.inr (.inr l0)), some (.inr (.inr l1)), some (.inl l2), some (.inl (am_get ω l1.toNat 3)), none]) (m' := (9, 0)) rfl rfl rfl rfl rfl rfl h2) ?_
  refine bv_cg (fun ω1 => ?_)
  refine Eq.trans (rr_aload_n rfl rfl) ?_
  refine ck_it (fun h => rr_getfi rfl rfl rfl h) (fun h => rr_getfield_no rfl rfl h) (fun h3 => ?_)
  refine Eq.trans (rr_istore_n (L' := [some (.inr (.inr l0)), some (.inr (.inr l1)), some (.inl l2), some (.inl (am_get ω1 l1.toNat 4))]) rfl rfl) ?_
  rfl
theorem pX1_firstStep_15 (l0 l1 l2 l3 : Int) (ω : am_W) (h1 : am_is ω l0 (1, 15) = true) : am_run (6, 0) 15 ([some (.inr (.inr l0)), some (.inr (.inr l1)), some (.inl l2), some (.inl l3)], [], ω) = if 60 < l3 then (some (some (.inl (am_get ω l0.toNat 14)), ω)) else (if ¬ (am_get ω l0.toNat 14) = ((-1)) then (some (some (.inl (am_get ω l0.toNat 14)), ω)) else (am_bv (am_run (13, 0) 0 ([some (.inr (.inr l0)), some (.inl l3), none, none, none, none, none], [], ω)) (fun ω1 => am_run (6, 0) 15 ([some (.inr (.inr l0)), some (.inr (.inr l1)), some (.inl l2), some (.inl (am_w (l3 + 1)))], [], ω1)))) := by
  refine Eq.trans (rr_iload_n rfl rfl) ?_
  refine Eq.trans (rr_bipush rfl rfl) ?_
  refine Eq.trans (rr_icmp_gt rfl rfl) (it_cg (fun _ => ?_) (fun _ => ?_))
  · refine Eq.trans (rr_aload_n rfl rfl) ?_
    refine Eq.trans (rr_getfi rfl rfl rfl h1) ?_
    exact rr_ireturn rfl rfl
  · refine Eq.trans (rr_aload_n rfl rfl) ?_
    refine Eq.trans (rr_getfi rfl rfl rfl h1) ?_
    refine Eq.trans (rr_iconst rfl rfl) ?_
    refine Eq.trans (rr_icmp_ne rfl rfl) (it_cg (fun _ => ?_) (fun _ => ?_))
    · refine Eq.trans (rr_aload_n rfl rfl) ?_
      refine Eq.trans (rr_getfi rfl rfl rfl h1) ?_
      exact rr_ireturn rfl rfl
    · refine Eq.trans (rr_aload_n rfl rfl) ?_
      refine Eq.trans (rr_iload_n rfl rfl) ?_
      refine Eq.trans (rr_invV0v (S' := []) (L' := [some (.inr (.inr l0)), some (.inl l3), none, none, none, none, none]) (m' := (13, 0)) rfl rfl rfl rfl rfl rfl h1) ?_
      refine bv_cg (fun ω1 => ?_)
      refine Eq.trans (rr_iinc (L' := [some (.inr (.inr l0)), some (.inr (.inr l1)), some (.inl l2), some (.inl (am_w (l3 + 1)))]) rfl rfl rfl) ?_
      refine Eq.trans (rr_goto rfl rfl) ?_
      rfl
theorem pX1_dropsThrough_0 (l0 l1 l2 l3 : Int) (ω : am_W) (h1 : am_is ω l0 (1, 15) = true) : am_run (7, 0) 0 ([some (.inr (.inr l0)), some (.inr (.inr l1)), some (.inr (.inr l2)), some (.inl l3), none, none, none, none, none], [], ω) = am_bv (am_run (9, 0) 0 ([some (.inr (.inr l0)), some (.inr (.inr l1)), some (.inl 0), some (.inl 999999), none], [], ω)) (fun ω1 => if am_is ω1 l1 (4, 5) = true then (am_run (7, 0) 20 ([some (.inr (.inr l0)), some (.inr (.inr l1)), some (.inr (.inr l2)), some (.inl l3), some (.inl (am_get ω1 l1.toNat 4)), some (.inl ((-1))), some (.inl 0), none, none], [], ω1)) else none) := by
  refine Eq.trans (rr_aload_n rfl rfl) ?_
  refine Eq.trans (rr_aload_n rfl rfl) ?_
  refine Eq.trans (rr_iconst rfl rfl) ?_
  refine Eq.trans (rr_ldc rfl rfl) ?_
  refine Eq.trans (rr_invV0v (S' := []) (L' := [some (.inr (.inr l0)), some (.inr (.inr l1)), some (.inl 0), some (.inl 999999), none]) (m' := (9, 0)) rfl rfl rfl rfl rfl rfl h1) ?_
  refine bv_cg (fun ω1 => ?_)
  refine Eq.trans (rr_aload_n rfl rfl) ?_
  refine ck_it (fun h => rr_getfi rfl rfl rfl h) (fun h => rr_getfield_no rfl rfl h) (fun h2 => ?_)
  refine Eq.trans (rr_istore (L' := [some (.inr (.inr l0)), some (.inr (.inr l1)), some (.inr (.inr l2)), some (.inl l3), some (.inl (am_get ω1 l1.toNat 4)), none, none, none, none]) rfl rfl) ?_
  refine Eq.trans (rr_iconst rfl rfl) ?_
  refine Eq.trans (rr_istore (L' := [some (.inr (.inr l0)), some (.inr (.inr l1)), some (.inr (.inr l2)), some (.inl l3), some (.inl (am_get ω1 l1.toNat 4)), some (.inl ((-1))), none, none, none]) rfl rfl) ?_
  refine Eq.trans (rr_iconst rfl rfl) ?_
  refine Eq.trans (rr_istore (L' := [some (.inr (.inr l0)), some (.inr (.inr l1)), some (.inr (.inr l2)), some (.inl l3), some (.inl (am_get ω1 l1.toNat 4)), some (.inl ((-1))), some (.inl 0), none, none]) rfl rfl) ?_
  rfl
theorem pX1_dropsThrough_20 (l0 l1 l2 l3 l4 l5 l6 : Int) (o7 o8 : Option am_V) (ω : am_W) (h1 : am_is ω l2 (2, 3) = true) : am_run (7, 0) 20 ([some (.inr (.inr l0)), some (.inr (.inr l1)), some (.inr (.inr l2)), some (.inl l3), some (.inl l4), some (.inl l5), some (.inl l6), o7, o8], [], ω) = if l3 ≤ l6 then (some (some (.inl l5), ω)) else (if (am_get ω l2.toNat 1) ≤ (am_w ((am_w (3 * l6)) + 2)) then (some (some (.inl l5), ω)) else (if am_in ω (am_get ω l2.toNat 2) 101 (am_w (3 * l6)) = true then (if am_in ω (am_get ω l2.toNat 2) 101 (am_w ((am_w (3 * l6)) + 1)) = true then (if am_in ω (am_get ω l2.toNat 2) 101 (am_w ((am_w (3 * l6)) + 2)) = true then (if l4 ≤ (am_w (am_get ω (am_get ω l2.toNat 2).toNat (am_w (3 * l6)).toNat)) then (am_run (7, 0) 90 ([some (.inr (.inr l0)), some (.inr (.inr l1)), some (.inr (.inr l2)), some (.inl l3), some (.inl l4), some (.inl l5), some (.inl l6), some (.inl (am_w (am_get ω (am_get ω l2.toNat 2).toNat (am_w (3 * l6)).toNat))), some (.inl (am_w ((am_w ((am_w (am_get ω (am_get ω l2.toNat 2).toNat (am_w ((am_w (3 * l6)) + 1)).toNat)) * 20)) + (am_w (am_get ω (am_get ω l2.toNat 2).toNat (am_w ((am_w (3 * l6)) + 2)).toNat)))))], [], ω)) else (some (some (.inl ((-1))), ω))) else none) else none) else none)) := by
  refine Eq.trans (rr_iload rfl rfl) ?_
  refine Eq.trans (rr_iload_n rfl rfl) ?_
  refine Eq.trans (rr_icmp_ge rfl rfl) (it_cg (fun _ => ?_) (fun _ => ?_))
  · refine Eq.trans (rr_iload rfl rfl) ?_
    exact rr_ireturn rfl rfl
  · refine Eq.trans (rr_iconst rfl rfl) ?_
    refine Eq.trans (rr_iload rfl rfl) ?_
    refine Eq.trans (rr_imul rfl) ?_
    refine Eq.trans (rr_iconst rfl rfl) ?_
    refine Eq.trans (rr_iadd rfl) ?_
    refine Eq.trans (rr_aload_n rfl rfl) ?_
    refine Eq.trans (rr_getfi rfl rfl rfl h1) ?_
    refine Eq.trans (rr_icmp_ge rfl rfl) (it_cg (fun _ => ?_) (fun _ => ?_))
    · refine Eq.trans (rr_iload rfl rfl) ?_
      exact rr_ireturn rfl rfl
    · refine Eq.trans (rr_aload_n rfl rfl) ?_
      refine Eq.trans (rr_getfr rfl rfl rfl h1) ?_
      refine Eq.trans (rr_iconst rfl rfl) ?_
      refine Eq.trans (rr_iload rfl rfl) ?_
      refine Eq.trans (rr_imul rfl) ?_
      refine ck_it (fun h => rr_laload rfl h) (fun h => rr_laload_no rfl h) (fun h2 => ?_)
      refine Eq.trans (rr_l2i rfl) ?_
      refine Eq.trans (rr_istore (L' := [some (.inr (.inr l0)), some (.inr (.inr l1)), some (.inr (.inr l2)), some (.inl l3), some (.inl l4), some (.inl l5), some (.inl l6), some (.inl (am_w (am_get ω (am_get ω l2.toNat 2).toNat (am_w (3 * l6)).toNat))), o8]) rfl rfl) ?_
      refine Eq.trans (rr_aload_n rfl rfl) ?_
      refine Eq.trans (rr_getfr rfl rfl rfl h1) ?_
      refine Eq.trans (rr_iconst rfl rfl) ?_
      refine Eq.trans (rr_iload rfl rfl) ?_
      refine Eq.trans (rr_imul rfl) ?_
      refine Eq.trans (rr_iconst rfl rfl) ?_
      refine Eq.trans (rr_iadd rfl) ?_
      refine ck_it (fun h => rr_laload rfl h) (fun h => rr_laload_no rfl h) (fun h3 => ?_)
      refine Eq.trans (rr_l2i rfl) ?_
      refine Eq.trans (rr_bipush rfl rfl) ?_
      refine Eq.trans (rr_imul rfl) ?_
      refine Eq.trans (rr_aload_n rfl rfl) ?_
      refine Eq.trans (rr_getfr rfl rfl rfl h1) ?_
      refine Eq.trans (rr_iconst rfl rfl) ?_
      refine Eq.trans (rr_iload rfl rfl) ?_
      refine Eq.trans (rr_imul rfl) ?_
      refine Eq.trans (rr_iconst rfl rfl) ?_
      refine Eq.trans (rr_iadd rfl) ?_
      refine ck_it (fun h => rr_laload rfl h) (fun h => rr_laload_no rfl h) (fun h4 => ?_)
      refine Eq.trans (rr_l2i rfl) ?_
      refine Eq.trans (rr_iadd rfl) ?_
      refine Eq.trans (rr_istore (L' := [some (.inr (.inr l0)), some (.inr (.inr l1)), some (.inr (.inr l2)), some (.inl l3), some (.inl l4), some (.inl l5), some (.inl l6), some (.inl (am_w (am_get ω (am_get ω l2.toNat 2).toNat (am_w (3 * l6)).toNat))), some (.inl (am_w ((am_w ((am_w (am_get ω (am_get ω l2.toNat 2).toNat (am_w ((am_w (3 * l6)) + 1)).toNat)) * 20)) + (am_w (am_get ω (am_get ω l2.toNat 2).toNat (am_w ((am_w (3 * l6)) + 2)).toNat)))))]) rfl rfl) ?_
      refine Eq.trans (rr_iload rfl rfl) ?_
      refine Eq.trans (rr_iload rfl rfl) ?_
      refine Eq.trans (rr_icmp_ge rfl rfl) (it_cg (fun _ => ?_) (fun _ => ?_))
      · rfl
      · refine Eq.trans (rr_iconst rfl rfl) ?_
        exact rr_ireturn rfl rfl
theorem pX1_dropsThrough_90 (l0 l1 l2 l3 l4 l5 l6 l7 l8 : Int) (ω : am_W) (h1 : am_is ω l0 (1, 15) = true) : am_run (7, 0) 90 ([some (.inr (.inr l0)), some (.inr (.inr l1)), some (.inr (.inr l2)), some (.inl l3), some (.inl l4), some (.inl l5), some (.inl l6), some (.inl l7), some (.inl l8)], [], ω) = if l7 ≤ l4 then (am_bi (am_run (8, 0) 0 ([some (.inr (.inr l0)), some (.inl l4), some (.inl l8), none, none], [], ω)) (fun z1 ω1 => if ¬ z1 = ((-1)) then (am_run (7, 0) 20 ([some (.inr (.inr l0)), some (.inr (.inr l1)), some (.inr (.inr l2)), some (.inl l3), some (.inl l4), some (.inl z1), some (.inl (am_w (l6 + 1))), some (.inl l7), some (.inl l8)], [], ω1)) else (some (some (.inl ((-1))), ω1)))) else (am_bv (am_run (13, 0) 0 ([some (.inr (.inr l0)), some (.inl l4), none, none, none, none, none], [], ω)) (fun ω2 => am_run (7, 0) 90 ([some (.inr (.inr l0)), some (.inr (.inr l1)), some (.inr (.inr l2)), some (.inl l3), some (.inl (am_w (l4 + 1))), some (.inl l5), some (.inl l6), some (.inl l7), some (.inl l8)], [], ω2))) := by
  refine Eq.trans (rr_iload rfl rfl) ?_
  refine Eq.trans (rr_iload rfl rfl) ?_
  refine Eq.trans (rr_icmp_ge rfl rfl) (it_cg (fun _ => ?_) (fun _ => ?_))
  · refine Eq.trans (rr_aload_n rfl rfl) ?_
    refine Eq.trans (rr_iload rfl rfl) ?_
    refine Eq.trans (rr_iload rfl rfl) ?_
    refine Eq.trans (rr_invV0i (S' := []) (L' := [some (.inr (.inr l0)), some (.inl l4), some (.inl l8), none, none]) (m' := (8, 0)) rfl rfl rfl rfl rfl rfl h1) ?_
    refine bi_cg (fun z1 ω1 => ?_)
    refine Eq.trans (rr_istore (L' := [some (.inr (.inr l0)), some (.inr (.inr l1)), some (.inr (.inr l2)), some (.inl l3), some (.inl l4), some (.inl z1), some (.inl l6), some (.inl l7), some (.inl l8)]) rfl rfl) ?_
    refine Eq.trans (rr_iload rfl rfl) ?_
    refine Eq.trans (rr_iconst rfl rfl) ?_
    refine Eq.trans (rr_icmp_ne rfl rfl) (it_cg (fun _ => ?_) (fun _ => ?_))
    · refine Eq.trans (rr_iinc (L' := [some (.inr (.inr l0)), some (.inr (.inr l1)), some (.inr (.inr l2)), some (.inl l3), some (.inl l4), some (.inl z1), some (.inl (am_w (l6 + 1))), some (.inl l7), some (.inl l8)]) rfl rfl rfl) ?_
      refine Eq.trans (rr_goto rfl rfl) ?_
      rfl
    · refine Eq.trans (rr_iconst rfl rfl) ?_
      exact rr_ireturn rfl rfl
  · refine Eq.trans (rr_aload_n rfl rfl) ?_
    refine Eq.trans (rr_iload rfl rfl) ?_
    refine Eq.trans (rr_invV0v (S' := []) (L' := [some (.inr (.inr l0)), some (.inl l4), none, none, none, none, none]) (m' := (13, 0)) rfl rfl rfl rfl rfl rfl h1) ?_
    refine bv_cg (fun ω2 => ?_)
    refine Eq.trans (rr_iinc (L' := [some (.inr (.inr l0)), some (.inr (.inr l1)), some (.inr (.inr l2)), some (.inl l3), some (.inl (am_w (l4 + 1))), some (.inl l5), some (.inl l6), some (.inl l7), some (.inl l8)]) rfl rfl rfl) ?_
    refine Eq.trans (rr_goto rfl rfl) ?_
    rfl
theorem pX1_keepOnly_0 (l0 l1 l2 : Int) (ω : am_W) : am_run (8, 0) 0 ([some (.inr (.inr l0)), some (.inl l1), some (.inl l2), none, none], [], ω) = am_bi (am_run (21, 0) 0 ([some (.inl l1)], [], ω)) (fun z1 ω1 => if am_is ω1 l0 (1, 15) = true then (if am_ina ω1 (am_get ω1 l0.toNat 6) 0 = true then (if am_in ω1 (am_get ω1 (am_get ω1 l0.toNat 6).toNat 0) 100 (am_w (z1 + l2)) = true then (am_bv (am_run (239, 0) 0 ([some (.inr (.inr (am_get ω1 (am_get ω1 l0.toNat 6).toNat 0))), some (.inl 1000000), none, none], [], ω1)) (fun ω2 => if am_is ω2 l0 (1, 15) = true then (if am_ina ω2 (am_get ω2 l0.toNat 6) 0 = true then (if am_in ω2 (am_get ω2 (am_get ω2 l0.toNat 6).toNat 0) 100 (am_w (z1 + l2)) = true then (if ¬ (am_get ω1 (am_get ω1 (am_get ω1 l0.toNat 6).toNat 0).toNat (am_w (z1 + l2)).toNat) = 1000000 then (some (some (.inl (am_get ω1 (am_get ω1 (am_get ω1 l0.toNat 6).toNat 0).toNat (am_w (z1 + l2)).toNat)), am_put ω2 (am_get ω2 (am_get ω2 l0.toNat 6).toNat 0).toNat (am_w (z1 + l2)).toNat (am_get ω1 (am_get ω1 (am_get ω1 l0.toNat 6).toNat 0).toNat (am_w (z1 + l2)).toNat))) else (some (some (.inl ((-1))), am_put ω2 (am_get ω2 (am_get ω2 l0.toNat 6).toNat 0).toNat (am_w (z1 + l2)).toNat (am_get ω1 (am_get ω1 (am_get ω1 l0.toNat 6).toNat 0).toNat (am_w (z1 + l2)).toNat)))) else none) else none) else none)) else none) else none) else none) := by
  refine Eq.trans (rr_iload_n rfl rfl) ?_
  refine Eq.trans (rr_invS2i (S' := []) (L' := [some (.inl l1)]) (m' := (21, 0)) rfl rfl rfl rfl rfl rfl) ?_
  refine bi_cg (fun z1 ω1 => ?_)
  refine Eq.trans (rr_iload_n rfl rfl) ?_
  refine Eq.trans (rr_iadd rfl) ?_
  refine Eq.trans (rr_istore_n (L' := [some (.inr (.inr l0)), some (.inl l1), some (.inl l2), some (.inl (am_w (z1 + l2))), none]) rfl rfl) ?_
  refine Eq.trans (rr_aload_n rfl rfl) ?_
  refine ck_it (fun h => rr_getfr rfl rfl rfl h) (fun h => rr_getfield_no rfl rfl h) (fun h1 => ?_)
  refine Eq.trans (rr_iconst rfl rfl) ?_
  refine ck_it (fun h => rr_aaload rfl h) (fun h => rr_aaload_no rfl h) (fun h2 => ?_)
  refine Eq.trans (rr_iload_n rfl rfl) ?_
  refine ck_it (fun h => rr_iaload rfl rfl h) (fun h => rr_iaload_no rfl rfl h) (fun h3 => ?_)
  refine Eq.trans (rr_istore (L' := [some (.inr (.inr l0)), some (.inl l1), some (.inl l2), some (.inl (am_w (z1 + l2))), some (.inl (am_get ω1 (am_get ω1 (am_get ω1 l0.toNat 6).toNat 0).toNat (am_w (z1 + l2)).toNat))]) rfl rfl) ?_
  refine Eq.trans (rr_aload_n rfl rfl) ?_
  refine Eq.trans (rr_getfr rfl rfl rfl h1) ?_
  refine Eq.trans (rr_iconst rfl rfl) ?_
  refine Eq.trans (rr_aaload rfl h2) ?_
  refine Eq.trans (rr_ldc rfl rfl) ?_
  refine Eq.trans (rr_invS2v (S' := []) (L' := [some (.inr (.inr (am_get ω1 (am_get ω1 l0.toNat 6).toNat 0))), some (.inl 1000000), none, none]) (m' := (239, 0)) rfl rfl rfl rfl rfl rfl) ?_
  refine bv_cg (fun ω2 => ?_)
  refine Eq.trans (rr_aload_n rfl rfl) ?_
  refine ck_it (fun h => rr_getfr rfl rfl rfl h) (fun h => rr_getfield_no rfl rfl h) (fun h4 => ?_)
  refine Eq.trans (rr_iconst rfl rfl) ?_
  refine ck_it (fun h => rr_aaload rfl h) (fun h => rr_aaload_no rfl h) (fun h5 => ?_)
  refine Eq.trans (rr_iload_n rfl rfl) ?_
  refine Eq.trans (rr_iload rfl rfl) ?_
  refine ck_it (fun h => rr_iastore rfl h) (fun h => rr_iastore_no rfl h) (fun h6 => ?_)
  refine Eq.trans (rr_iload rfl rfl) ?_
  refine Eq.trans (rr_ldc rfl rfl) ?_
  refine Eq.trans (rr_icmp_ne rfl rfl) (it_cg (fun _ => ?_) (fun _ => ?_))
  · refine Eq.trans (rr_iload rfl rfl) ?_
    exact rr_ireturn rfl rfl
  · refine Eq.trans (rr_iconst rfl rfl) ?_
    refine Eq.trans (rr_goto rfl rfl) ?_
    exact rr_ireturn rfl rfl
theorem pX1_prepare_0 (l0 l1 l2 l3 : Int) (ω : am_W) (h1 : am_is ω l0 (1, 15) = true) : am_run (9, 0) 0 ([some (.inr (.inr l0)), some (.inr (.inr l1)), some (.inl l2), some (.inl l3), none], [], ω) = am_bv (am_run (10, 0) 0 ([some (.inr (.inr l0)), some (.inr (.inr l1)), none, none, none, none], [], ω)) (fun ω1 => if am_is ω1 l0 (1, 15) = true then (am_bv (am_run (12, 0) 0 ([some (.inr (.inr l0)), some (.inl l2), none], [], ω1)) (fun ω2 => am_run (9, 0) 13 ([some (.inr (.inr l0)), some (.inr (.inr l1)), some (.inl l2), some (.inl l3), some (.inl 0)], [], ω2))) else none) := by
  refine Eq.trans (rr_aload_n rfl rfl) ?_
  refine Eq.trans (rr_aload_n rfl rfl) ?_
  refine Eq.trans (rr_invV0v (S' := []) (L' := [some (.inr (.inr l0)), some (.inr (.inr l1)), none, none, none, none]) (m' := (10, 0)) rfl rfl rfl rfl rfl rfl h1) ?_
  refine bv_cg (fun ω1 => ?_)
  refine Eq.trans (rr_aload_n rfl rfl) ?_
  refine Eq.trans (rr_iload_n rfl rfl) ?_
  refine ck_it (fun h => rr_invV0v (S' := []) (L' := [some (.inr (.inr l0)), some (.inl l2), none]) (m' := (12, 0)) rfl rfl rfl rfl rfl rfl h) (fun h => rr_invV0_no (S' := []) (L' := [some (.inr (.inr l0)), some (.inl l2), none]) (m' := (12, 0)) rfl rfl rfl rfl rfl rfl h) (fun h2 => ?_)
  refine bv_cg (fun ω2 => ?_)
  refine Eq.trans (rr_iconst rfl rfl) ?_
  refine Eq.trans (rr_istore (L' := [some (.inr (.inr l0)), some (.inr (.inr l1)), some (.inl l2), some (.inl l3), some (.inl 0)]) rfl rfl) ?_
  rfl
theorem pX1_prepare_13 (l0 l1 l2 l3 l4 : Int) (ω : am_W) (h1 : am_is ω l0 (1, 15) = true) : am_run (9, 0) 13 ([some (.inr (.inr l0)), some (.inr (.inr l1)), some (.inl l2), some (.inl l3), some (.inl l4)], [], ω) = if (am_get ω l0.toNat 11) ≤ l4 then (am_run (9, 0) 47 ([some (.inr (.inr l0)), some (.inr (.inr l1)), some (.inl l2), some (.inl l3), some (.inl l4)], [], ω)) else (if 7 ≤ l4 then (am_run (9, 0) 47 ([some (.inr (.inr l0)), some (.inr (.inr l1)), some (.inl l2), some (.inl l3), some (.inl l4)], [], ω)) else (if am_ina ω (am_get ω l0.toNat 6) l4 = true then (am_bv (am_run (239, 0) 0 ([some (.inr (.inr (am_get ω (am_get ω l0.toNat 6).toNat l4.toNat))), some (.inl 1000000), none, none], [], ω)) (fun ω1 => am_run (9, 0) 13 ([some (.inr (.inr l0)), some (.inr (.inr l1)), some (.inl l2), some (.inl l3), some (.inl (am_w (l4 + 1)))], [], ω1))) else none)) := by
  refine Eq.trans (rr_iload rfl rfl) ?_
  refine Eq.trans (rr_aload_n rfl rfl) ?_
  refine Eq.trans (rr_getfi rfl rfl rfl h1) ?_
  refine Eq.trans (rr_icmp_ge rfl rfl) (it_cg (fun _ => ?_) (fun _ => ?_))
  · rfl
  · refine Eq.trans (rr_iload rfl rfl) ?_
    refine Eq.trans (rr_bipush rfl rfl) ?_
    refine Eq.trans (rr_icmp_ge rfl rfl) (it_cg (fun _ => ?_) (fun _ => ?_))
    · rfl
    · refine Eq.trans (rr_aload_n rfl rfl) ?_
      refine Eq.trans (rr_getfr rfl rfl rfl h1) ?_
      refine Eq.trans (rr_iload rfl rfl) ?_
      refine ck_it (fun h => rr_aaload rfl h) (fun h => rr_aaload_no rfl h) (fun h2 => ?_)
      refine Eq.trans (rr_ldc rfl rfl) ?_
      refine Eq.trans (rr_invS2v (S' := []) (L' := [some (.inr (.inr (am_get ω (am_get ω l0.toNat 6).toNat l4.toNat))), some (.inl 1000000), none, none]) (m' := (239, 0)) rfl rfl rfl rfl rfl rfl) ?_
      refine bv_cg (fun ω1 => ?_)
      refine Eq.trans (rr_iinc (L' := [some (.inr (.inr l0)), some (.inr (.inr l1)), some (.inl l2), some (.inl l3), some (.inl (am_w (l4 + 1)))]) rfl rfl rfl) ?_
      refine Eq.trans (rr_goto rfl rfl) ?_
      rfl
theorem pX1_prepare_47 (l0 l1 l2 l3 l4 : Int) (ω : am_W) (h1 : am_is ω l0 (1, 15) = true) : am_run (9, 0) 47 ([some (.inr (.inr l0)), some (.inr (.inr l1)), some (.inl l2), some (.inl l3), some (.inl l4)], [], ω) = am_run (9, 0) 57 ([some (.inr (.inr l0)), some (.inr (.inr l1)), some (.inl l2), some (.inl l3), some (.inl l4)], [], am_put (am_put ω l0.toNat 12 l3) l0.toNat 13 ((-1))) := by
  refine Eq.trans (rr_aload_n rfl rfl) ?_
  refine Eq.trans (rr_iload_n rfl rfl) ?_
  refine Eq.trans (rr_putfieldi rfl rfl rfl h1) ?_
  refine Eq.trans (rr_aload_n rfl rfl) ?_
  refine Eq.trans (rr_iconst rfl rfl) ?_
  refine Eq.trans (rr_putfieldi rfl rfl rfl h1) ?_
  rfl
theorem pX1_prepare_57 (l0 l1 l2 l3 l4 : Int) (ω : am_W) (h1 : am_is ω l0 (1, 15) = true) (h3 : am_is ω l1 (4, 5) = true) : am_run (9, 0) 57 ([some (.inr (.inr l0)), some (.inr (.inr l1)), some (.inl l2), some (.inl l3), some (.inl l4)], [], ω) = if am_ina (am_put ω l0.toNat 14 ((-1))) (am_get (am_put ω l0.toNat 14 ((-1))) l0.toNat 6) 0 = true then (am_bi (am_run (21, 0) 0 ([some (.inl (am_get (am_put ω l0.toNat 14 ((-1))) l1.toNat 4))], [], am_put ω l0.toNat 14 ((-1)))) (fun z1 ω1 => if am_is ω1 l0 (1, 15) = true then (if am_is ω1 (am_get ω1 l0.toNat 0) (5, 8) = true then (am_bi (am_run (80, 0) 0 ([some (.inr (.inr (am_get ω1 l0.toNat 0))), some (.inr (.inr l1))], [], ω1)) (fun z2 ω2 => if am_in ω2 (am_get (am_put ω l0.toNat 14 ((-1))) (am_get (am_put ω l0.toNat 14 ((-1))) l0.toNat 6).toNat 0) 100 (am_w (z1 + z2)) = true then (some (none, am_put ω2 (am_get (am_put ω l0.toNat 14 ((-1))) (am_get (am_put ω l0.toNat 14 ((-1))) l0.toNat 6).toNat 0).toNat (am_w (z1 + z2)).toNat 0)) else none)) else none) else none)) else none := by
  refine Eq.trans (rr_aload_n rfl rfl) ?_
  refine Eq.trans (rr_iconst rfl rfl) ?_
  refine Eq.trans (rr_putfieldi rfl rfl rfl h1) ?_
  refine Eq.trans (rr_aload_n rfl rfl) ?_
  refine Eq.trans (rr_getfr rfl rfl rfl h1) ?_
  refine Eq.trans (rr_iconst rfl rfl) ?_
  refine ck_it (fun h => rr_aaload rfl h) (fun h => rr_aaload_no rfl h) (fun h2 => ?_)
  refine Eq.trans (rr_aload_n rfl rfl) ?_
  refine Eq.trans (rr_getfi rfl rfl rfl h3) ?_
  refine Eq.trans (rr_invS2i (S' := [.inr (.inr (am_get (am_put ω l0.toNat 14 ((-1))) (am_get (am_put ω l0.toNat 14 ((-1))) l0.toNat 6).toNat 0))]) (L' := [some (.inl (am_get (am_put ω l0.toNat 14 ((-1))) l1.toNat 4))]) (m' := (21, 0)) rfl rfl rfl rfl rfl rfl) ?_
  refine bi_cg (fun z1 ω1 => ?_)
  refine Eq.trans (rr_aload_n rfl rfl) ?_
  refine ck_it (fun h => rr_getfr rfl rfl rfl h) (fun h => rr_getfield_no rfl rfl h) (fun h4 => ?_)
  refine Eq.trans (rr_aload_n rfl rfl) ?_
  refine ck_it (fun h => rr_invV0i (S' := [.inl z1, .inr (.inr (am_get (am_put ω l0.toNat 14 ((-1))) (am_get (am_put ω l0.toNat 14 ((-1))) l0.toNat 6).toNat 0))]) (L' := [some (.inr (.inr (am_get ω1 l0.toNat 0))), some (.inr (.inr l1))]) (m' := (80, 0)) rfl rfl rfl rfl rfl rfl h) (fun h => rr_invV0_no (S' := [.inl z1, .inr (.inr (am_get (am_put ω l0.toNat 14 ((-1))) (am_get (am_put ω l0.toNat 14 ((-1))) l0.toNat 6).toNat 0))]) (L' := [some (.inr (.inr (am_get ω1 l0.toNat 0))), some (.inr (.inr l1))]) (m' := (80, 0)) rfl rfl rfl rfl rfl rfl h) (fun h5 => ?_)
  refine bi_cg (fun z2 ω2 => ?_)
  refine Eq.trans (rr_iadd rfl) ?_
  refine Eq.trans (rr_iconst rfl rfl) ?_
  refine ck_it (fun h => rr_iastore rfl h) (fun h => rr_iastore_no rfl h) (fun h6 => ?_)
  exact rr_return rfl rfl
theorem pX1_chart_0 (l0 l1 : Int) (ω : am_W) (h1 : am_is ω l0 (1, 15) = true) : am_run (10, 0) 0 ([some (.inr (.inr l0)), some (.inr (.inr l1)), none, none, none, none], [], ω) = am_run (10, 0) 7 ([some (.inr (.inr l0)), some (.inr (.inr l1)), some (.inl 0), none, none, none], [], am_put ω l0.toNat 2 0) := by
  refine Eq.trans (rr_aload_n rfl rfl) ?_
  refine Eq.trans (rr_iconst rfl rfl) ?_
  refine Eq.trans (rr_putfieldi rfl rfl rfl h1) ?_
  refine Eq.trans (rr_iconst rfl rfl) ?_
  refine Eq.trans (rr_istore_n (L' := [some (.inr (.inr l0)), some (.inr (.inr l1)), some (.inl 0), none, none, none]) rfl rfl) ?_
  rfl
theorem pX1_chart_7 (l0 l1 l2 : Int) (o3 o4 o5 : Option am_V) (ω : am_W) (h1 : am_is ω l0 (1, 15) = true) (h2 : am_is ω (am_get ω l0.toNat 0) (5, 8) = true) : am_run (10, 0) 7 ([some (.inr (.inr l0)), some (.inr (.inr l1)), some (.inl l2), o3, o4, o5], [], ω) = if (am_get ω (am_get ω l0.toNat 0).toNat 0) ≤ l2 then (some (none, ω)) else (am_bi (am_run (61, 0) 0 ([some (.inr (.inr (am_get ω l0.toNat 0))), some (.inl l2)], [], ω)) (fun z1 ω1 => am_run (10, 0) 30 ([some (.inr (.inr l0)), some (.inr (.inr l1)), some (.inl l2), some (.inl z1), some (.inl 0), o5], [], ω1))) := by
  refine Eq.trans (rr_iload_n rfl rfl) ?_
  refine Eq.trans (rr_aload_n rfl rfl) ?_
  refine Eq.trans (rr_getfr rfl rfl rfl h1) ?_
  refine Eq.trans (rr_getfi rfl rfl rfl h2) ?_
  refine Eq.trans (rr_icmp_ge rfl rfl) (it_cg (fun _ => ?_) (fun _ => ?_))
  · exact rr_return rfl rfl
  · refine Eq.trans (rr_aload_n rfl rfl) ?_
    refine Eq.trans (rr_getfr rfl rfl rfl h1) ?_
    refine Eq.trans (rr_iload_n rfl rfl) ?_
    refine Eq.trans (rr_invV0i (S' := []) (L' := [some (.inr (.inr (am_get ω l0.toNat 0))), some (.inl l2)]) (m' := (61, 0)) rfl rfl rfl rfl rfl rfl h2) ?_
    refine bi_cg (fun z1 ω1 => ?_)
    refine Eq.trans (rr_istore_n (L' := [some (.inr (.inr l0)), some (.inr (.inr l1)), some (.inl l2), some (.inl z1), o4, o5]) rfl rfl) ?_
    refine Eq.trans (rr_iconst rfl rfl) ?_
    refine Eq.trans (rr_istore (L' := [some (.inr (.inr l0)), some (.inr (.inr l1)), some (.inl l2), some (.inl z1), some (.inl 0), o5]) rfl rfl) ?_
    rfl
theorem pX1_chart_30 (l0 l1 l2 l3 l4 : Int) (o5 : Option am_V) (ω : am_W) (h1 : am_is ω l0 (1, 15) = true) : am_run (10, 0) 30 ([some (.inr (.inr l0)), some (.inr (.inr l1)), some (.inl l2), some (.inl l3), some (.inl l4), o5], [], ω) = if l3 ≤ l4 then (am_run (10, 0) 7 ([some (.inr (.inr l0)), some (.inr (.inr l1)), some (.inl (am_w (l2 + 1))), some (.inl l3), some (.inl l4), o5], [], ω)) else (if am_in ω (am_get ω l0.toNat 1) 100 (am_get ω l0.toNat 2) = true then (am_run (10, 0) 66 ([some (.inr (.inr l0)), some (.inr (.inr l1)), some (.inl l2), some (.inl l3), some (.inl l4), some (.inl (am_w ((am_w (l2 * 20)) + l4)))], [], am_put (am_put ω (am_get ω l0.toNat 1).toNat (am_get ω l0.toNat 2).toNat (am_w ((am_w (l2 * 20)) + l4))) l0.toNat 2 (am_w ((am_get (am_put ω (am_get ω l0.toNat 1).toNat (am_get ω l0.toNat 2).toNat (am_w ((am_w (l2 * 20)) + l4))) l0.toNat 2) + 1)))) else none) := by
  refine Eq.trans (rr_iload rfl rfl) ?_
  refine Eq.trans (rr_iload_n rfl rfl) ?_
  refine Eq.trans (rr_icmp_ge rfl rfl) (it_cg (fun _ => ?_) (fun _ => ?_))
  · refine Eq.trans (rr_iinc (L' := [some (.inr (.inr l0)), some (.inr (.inr l1)), some (.inl (am_w (l2 + 1))), some (.inl l3), some (.inl l4), o5]) rfl rfl rfl) ?_
    refine Eq.trans (rr_goto rfl rfl) ?_
    rfl
  · refine Eq.trans (rr_iload_n rfl rfl) ?_
    refine Eq.trans (rr_bipush rfl rfl) ?_
    refine Eq.trans (rr_imul rfl) ?_
    refine Eq.trans (rr_iload rfl rfl) ?_
    refine Eq.trans (rr_iadd rfl) ?_
    refine Eq.trans (rr_istore (L' := [some (.inr (.inr l0)), some (.inr (.inr l1)), some (.inl l2), some (.inl l3), some (.inl l4), some (.inl (am_w ((am_w (l2 * 20)) + l4)))]) rfl rfl) ?_
    refine Eq.trans (rr_aload_n rfl rfl) ?_
    refine Eq.trans (rr_getfr rfl rfl rfl h1) ?_
    refine Eq.trans (rr_aload_n rfl rfl) ?_
    refine Eq.trans (rr_getfi rfl rfl rfl h1) ?_
    refine Eq.trans (rr_iload rfl rfl) ?_
    refine ck_it (fun h => rr_iastore rfl h) (fun h => rr_iastore_no rfl h) (fun h2 => ?_)
    refine Eq.trans (rr_aload_n rfl rfl) ?_
    refine Eq.trans (rr_dupr rfl) ?_
    refine Eq.trans (rr_getfi rfl rfl rfl h1) ?_
    refine Eq.trans (rr_iconst rfl rfl) ?_
    refine Eq.trans (rr_iadd rfl) ?_
    refine Eq.trans (rr_putfieldi rfl rfl rfl h1) ?_
    rfl
theorem pX1_chart_66 (l0 l1 l2 l3 l4 l5 : Int) (ω : am_W) (h1 : am_is ω l0 (1, 15) = true) : am_run (10, 0) 66 ([some (.inr (.inr l0)), some (.inr (.inr l1)), some (.inl l2), some (.inl l3), some (.inl l4), some (.inl l5)], [], ω) = if am_ina ω (am_get ω l0.toNat 3) 0 = true then (am_bi (am_run (145, 0) 0 ([some (.inl (am_w (l4 + 1))), some (.inl l3)], [], ω)) (fun z1 ω1 => if am_in ω1 (am_get ω (am_get ω l0.toNat 3).toNat 0) 100 l5 = true then (if am_is (am_put ω1 (am_get ω (am_get ω l0.toNat 3).toNat 0).toNat l5.toNat (am_w ((am_w (l2 * 20)) + z1))) l0 (1, 15) = true then (if am_ina (am_put ω1 (am_get ω (am_get ω l0.toNat 3).toNat 0).toNat l5.toNat (am_w ((am_w (l2 * 20)) + z1))) (am_get (am_put ω1 (am_get ω (am_get ω l0.toNat 3).toNat 0).toNat l5.toNat (am_w ((am_w (l2 * 20)) + z1))) l0.toNat 4) 0 = true then (if am_in (am_put ω1 (am_get ω (am_get ω l0.toNat 3).toNat 0).toNat l5.toNat (am_w ((am_w (l2 * 20)) + z1))) (am_get (am_put ω1 (am_get ω (am_get ω l0.toNat 3).toNat 0).toNat l5.toNat (am_w ((am_w (l2 * 20)) + z1))) (am_get (am_put ω1 (am_get ω (am_get ω l0.toNat 3).toNat 0).toNat l5.toNat (am_w ((am_w (l2 * 20)) + z1))) l0.toNat 4).toNat 0) 100 l5 = true then (am_run (10, 0) 98 ([some (.inr (.inr l0)), some (.inr (.inr l1)), some (.inl l2), some (.inl l3), some (.inl l4), some (.inl l5)], [], am_put (am_put ω1 (am_get ω (am_get ω l0.toNat 3).toNat 0).toNat l5.toNat (am_w ((am_w (l2 * 20)) + z1))) (am_get (am_put ω1 (am_get ω (am_get ω l0.toNat 3).toNat 0).toNat l5.toNat (am_w ((am_w (l2 * 20)) + z1))) (am_get (am_put ω1 (am_get ω (am_get ω l0.toNat 3).toNat 0).toNat l5.toNat (am_w ((am_w (l2 * 20)) + z1))) l0.toNat 4).toNat 0).toNat l5.toNat 1)) else none) else none) else none) else none)) else none := by
  refine Eq.trans (rr_aload_n rfl rfl) ?_
  refine Eq.trans (rr_getfr rfl rfl rfl h1) ?_
  refine Eq.trans (rr_iconst rfl rfl) ?_
  refine ck_it (fun h => rr_aaload rfl h) (fun h => rr_aaload_no rfl h) (fun h2 => ?_)
  refine Eq.trans (rr_iload rfl rfl) ?_
  refine Eq.trans (rr_iload_n rfl rfl) ?_
  refine Eq.trans (rr_bipush rfl rfl) ?_
  refine Eq.trans (rr_imul rfl) ?_
  refine Eq.trans (rr_iload rfl rfl) ?_
  refine Eq.trans (rr_iconst rfl rfl) ?_
  refine Eq.trans (rr_iadd rfl) ?_
  refine Eq.trans (rr_iload_n rfl rfl) ?_
  refine Eq.trans (rr_invS3i (S' := [.inl (am_w (l2 * 20)), .inl l5, .inr (.inr (am_get ω (am_get ω l0.toNat 3).toNat 0))]) (L' := [some (.inl (am_w (l4 + 1))), some (.inl l3)]) (m' := (145, 0)) rfl rfl rfl rfl rfl rfl) ?_
  refine bi_cg (fun z1 ω1 => ?_)
  refine Eq.trans (rr_iadd rfl) ?_
  refine ck_it (fun h => rr_iastore rfl h) (fun h => rr_iastore_no rfl h) (fun h3 => ?_)
  refine Eq.trans (rr_aload_n rfl rfl) ?_
  refine ck_it (fun h => rr_getfr rfl rfl rfl h) (fun h => rr_getfield_no rfl rfl h) (fun h4 => ?_)
  refine Eq.trans (rr_iconst rfl rfl) ?_
  refine ck_it (fun h => rr_aaload rfl h) (fun h => rr_aaload_no rfl h) (fun h5 => ?_)
  refine Eq.trans (rr_iload rfl rfl) ?_
  refine Eq.trans (rr_iconst rfl rfl) ?_
  refine ck_it (fun h => rr_iastore rfl h) (fun h => rr_iastore_no rfl h) (fun h6 => ?_)
  rfl
theorem pX1_chart_98 (l0 l1 l2 l3 l4 l5 : Int) (ω : am_W) (h1 : am_is ω l0 (1, 15) = true) : am_run (10, 0) 98 ([some (.inr (.inr l0)), some (.inr (.inr l1)), some (.inl l2), some (.inl l3), some (.inl l4), some (.inl l5)], [], ω) = if am_ina ω (am_get ω l0.toNat 5) 0 = true then (if am_in ω (am_get ω (am_get ω l0.toNat 5).toNat 0) 100 l5 = true then (am_bv (am_run (11, 0) 0 ([some (.inr (.inr l0)), some (.inr (.inr l1)), some (.inl 1), some (.inl l2), some (.inl l4), none, none, none], [], am_put ω (am_get ω (am_get ω l0.toNat 5).toNat 0).toNat l5.toNat 0)) (fun ω1 => if am_is ω1 l0 (1, 15) = true then (am_bv (am_run (11, 0) 0 ([some (.inr (.inr l0)), some (.inr (.inr l1)), some (.inl 2), some (.inl l2), some (.inl l4), none, none, none], [], ω1)) (fun ω2 => am_run (10, 0) 30 ([some (.inr (.inr l0)), some (.inr (.inr l1)), some (.inl l2), some (.inl l3), some (.inl (am_w (l4 + 1))), some (.inl l5)], [], ω2))) else none)) else none) else none := by
  refine Eq.trans (rr_aload_n rfl rfl) ?_
  refine Eq.trans (rr_getfr rfl rfl rfl h1) ?_
  refine Eq.trans (rr_iconst rfl rfl) ?_
  refine ck_it (fun h => rr_aaload rfl h) (fun h => rr_aaload_no rfl h) (fun h2 => ?_)
  refine Eq.trans (rr_iload rfl rfl) ?_
  refine Eq.trans (rr_iconst rfl rfl) ?_
  refine ck_it (fun h => rr_iastore rfl h) (fun h => rr_iastore_no rfl h) (fun h3 => ?_)
  refine Eq.trans (rr_aload_n rfl rfl) ?_
  refine Eq.trans (rr_aload_n rfl rfl) ?_
  refine Eq.trans (rr_iconst rfl rfl) ?_
  refine Eq.trans (rr_iload_n rfl rfl) ?_
  refine Eq.trans (rr_iload rfl rfl) ?_
  refine Eq.trans (rr_invV0v (S' := []) (L' := [some (.inr (.inr l0)), some (.inr (.inr l1)), some (.inl 1), some (.inl l2), some (.inl l4), none, none, none]) (m' := (11, 0)) rfl rfl rfl rfl rfl rfl h1) ?_
  refine bv_cg (fun ω1 => ?_)
  refine Eq.trans (rr_aload_n rfl rfl) ?_
  refine Eq.trans (rr_aload_n rfl rfl) ?_
  refine Eq.trans (rr_iconst rfl rfl) ?_
  refine Eq.trans (rr_iload_n rfl rfl) ?_
  refine Eq.trans (rr_iload rfl rfl) ?_
  refine ck_it (fun h => rr_invV0v (S' := []) (L' := [some (.inr (.inr l0)), some (.inr (.inr l1)), some (.inl 2), some (.inl l2), some (.inl l4), none, none, none]) (m' := (11, 0)) rfl rfl rfl rfl rfl rfl h) (fun h => rr_invV0_no (S' := []) (L' := [some (.inr (.inr l0)), some (.inr (.inr l1)), some (.inl 2), some (.inl l2), some (.inl l4), none, none, none]) (m' := (11, 0)) rfl rfl rfl rfl rfl rfl h) (fun h4 => ?_)
  refine bv_cg (fun ω2 => ?_)
  refine Eq.trans (rr_iinc (L' := [some (.inr (.inr l0)), some (.inr (.inr l1)), some (.inl l2), some (.inl l3), some (.inl (am_w (l4 + 1))), some (.inl l5)]) rfl rfl rfl) ?_
  refine Eq.trans (rr_goto rfl rfl) ?_
  rfl
theorem pX1_chartChange_0 (l0 l1 l2 l3 l4 : Int) (ω : am_W) (h1 : am_is ω l1 (4, 5) = true) : am_run (11, 0) 0 ([some (.inr (.inr l0)), some (.inr (.inr l1)), some (.inl l2), some (.inl l3), some (.inl l4), none, none, none], [], ω) = am_bi (am_run (50, 0) 0 ([some (.inr (.inr l1))], [], ω)) (fun z1 ω1 => if z1 = 0 then (am_run (11, 0) 30 ([some (.inr (.inr l0)), some (.inr (.inr l1)), some (.inl l2), some (.inl l3), some (.inl l4), some (.inl (am_w ((am_w (l3 * 20)) + l4))), none, none], [.inl ((-1))], ω1)) else (if am_is ω1 l0 (1, 15) = true then (if am_is ω1 (am_get ω1 l0.toNat 0) (5, 8) = true then (am_bi (am_run (69, 0) 0 ([some (.inr (.inr (am_get ω1 l0.toNat 0))), some (.inr (.inr l1)), some (.inl l3), some (.inl l2), none], [], ω1)) (fun z2 ω2 => am_run (11, 0) 30 ([some (.inr (.inr l0)), some (.inr (.inr l1)), some (.inl l2), some (.inl l3), some (.inl l4), some (.inl (am_w ((am_w (l3 * 20)) + l4))), none, none], [.inl z2], ω2))) else none) else none)) := by
  refine Eq.trans (rr_iload_n rfl rfl) ?_
  refine Eq.trans (rr_bipush rfl rfl) ?_
  refine Eq.trans (rr_imul rfl) ?_
  refine Eq.trans (rr_iload rfl rfl) ?_
  refine Eq.trans (rr_iadd rfl) ?_
  refine Eq.trans (rr_istore (L' := [some (.inr (.inr l0)), some (.inr (.inr l1)), some (.inl l2), some (.inl l3), some (.inl l4), some (.inl (am_w ((am_w (l3 * 20)) + l4))), none, none]) rfl rfl) ?_
  refine Eq.trans (rr_aload_n rfl rfl) ?_
  refine Eq.trans (rr_invV0i (S' := []) (L' := [some (.inr (.inr l1))]) (m' := (50, 0)) rfl rfl rfl rfl rfl rfl h1) ?_
  refine bi_cg (fun z1 ω1 => ?_)
  refine Eq.trans (rr_if_eq rfl rfl) (it_cg (fun _ => ?_) (fun _ => ?_))
  · refine Eq.trans (rr_iconst rfl rfl) ?_
    rfl
  · refine Eq.trans (rr_aload_n rfl rfl) ?_
    refine ck_it (fun h => rr_getfr rfl rfl rfl h) (fun h => rr_getfield_no rfl rfl h) (fun h2 => ?_)
    refine Eq.trans (rr_aload_n rfl rfl) ?_
    refine Eq.trans (rr_iload_n rfl rfl) ?_
    refine Eq.trans (rr_iload_n rfl rfl) ?_
    refine ck_it (fun h => rr_invV0i (S' := []) (L' := [some (.inr (.inr (am_get ω1 l0.toNat 0))), some (.inr (.inr l1)), some (.inl l3), some (.inl l2), none]) (m' := (69, 0)) rfl rfl rfl rfl rfl rfl h) (fun h => rr_invV0_no (S' := []) (L' := [some (.inr (.inr (am_get ω1 l0.toNat 0))), some (.inr (.inr l1)), some (.inl l3), some (.inl l2), none]) (m' := (69, 0)) rfl rfl rfl rfl rfl rfl h) (fun h3 => ?_)
    refine bi_cg (fun z2 ω2 => ?_)
    refine Eq.trans (rr_goto rfl rfl) ?_
    rfl
theorem pX1_chartChange_30 (l0 l1 l2 l3 l4 l5 s0 : Int) (o6 o7 : Option am_V) (ω : am_W) (h1 : am_is ω l0 (1, 15) = true) : am_run (11, 0) 30 ([some (.inr (.inr l0)), some (.inr (.inr l1)), some (.inl l2), some (.inl l3), some (.inl l4), some (.inl l5), o6, o7], [.inl s0], ω) = if am_ina ω (am_get ω l0.toNat 3) l2 = true then (if am_in ω (am_get ω (am_get ω l0.toNat 3).toNat l2.toNat) 100 l5 = true then (if s0 = ((-1)) then (some (none, am_put ω (am_get ω (am_get ω l0.toNat 3).toNat l2.toNat).toNat l5.toNat ((-1)))) else (if am_is (am_put ω (am_get ω (am_get ω l0.toNat 3).toNat l2.toNat).toNat l5.toNat ((-1))) (am_get (am_put ω (am_get ω (am_get ω l0.toNat 3).toNat l2.toNat).toNat l5.toNat ((-1))) l0.toNat 0) (5, 8) = true then (am_bi (am_run (62, 0) 0 ([some (.inr (.inr (am_get (am_put ω (am_get ω (am_get ω l0.toNat 3).toNat l2.toNat).toNat l5.toNat ((-1))) l0.toNat 0))), some (.inl l3), some (.inl l2)], [], am_put ω (am_get ω (am_get ω l0.toNat 3).toNat l2.toNat).toNat l5.toNat ((-1)))) (fun z1 ω1 => if am_is ω1 l0 (1, 15) = true then (if am_ina ω1 (am_get ω1 l0.toNat 3) l2 = true then (if am_is ω1 (am_get ω1 l0.toNat 0) (5, 8) = true then (am_bi (am_run (71, 0) 0 ([some (.inr (.inr (am_get ω1 l0.toNat 0))), some (.inl l3), some (.inl l4), some (.inl z1), none, none, none], [], ω1)) (fun z2 ω2 => if am_in ω2 (am_get ω1 (am_get ω1 l0.toNat 3).toNat l2.toNat) 100 l5 = true then (am_run (11, 0) 86 ([some (.inr (.inr l0)), some (.inr (.inr l1)), some (.inl l2), some (.inl l3), some (.inl l4), some (.inl l5), some (.inl s0), some (.inl z1)], [], am_put ω2 (am_get ω1 (am_get ω1 l0.toNat 3).toNat l2.toNat).toNat l5.toNat (am_w ((am_w (z1 * 20)) + z2)))) else none)) else none) else none) else none)) else none)) else none) else none := by
  refine Eq.trans (rr_istore (L' := [some (.inr (.inr l0)), some (.inr (.inr l1)), some (.inl l2), some (.inl l3), some (.inl l4), some (.inl l5), some (.inl s0), o7]) rfl rfl) ?_
  refine Eq.trans (rr_aload_n rfl rfl) ?_
  refine Eq.trans (rr_getfr rfl rfl rfl h1) ?_
  refine Eq.trans (rr_iload_n rfl rfl) ?_
  refine ck_it (fun h => rr_aaload rfl h) (fun h => rr_aaload_no rfl h) (fun h2 => ?_)
  refine Eq.trans (rr_iload rfl rfl) ?_
  refine Eq.trans (rr_iconst rfl rfl) ?_
  refine ck_it (fun h => rr_iastore rfl h) (fun h => rr_iastore_no rfl h) (fun h3 => ?_)
  refine Eq.trans (rr_iload rfl rfl) ?_
  refine Eq.trans (rr_iconst rfl rfl) ?_
  refine Eq.trans (rr_icmp_eq rfl rfl) (it_cg (fun _ => ?_) (fun _ => ?_))
  · exact rr_return rfl rfl
  · refine Eq.trans (rr_aload_n rfl rfl) ?_
    refine Eq.trans (rr_getfr rfl rfl rfl h1) ?_
    refine Eq.trans (rr_iload_n rfl rfl) ?_
    refine Eq.trans (rr_iload_n rfl rfl) ?_
    refine ck_it (fun h => rr_invV0i (S' := []) (L' := [some (.inr (.inr (am_get (am_put ω (am_get ω (am_get ω l0.toNat 3).toNat l2.toNat).toNat l5.toNat ((-1))) l0.toNat 0))), some (.inl l3), some (.inl l2)]) (m' := (62, 0)) rfl rfl rfl rfl rfl rfl h) (fun h => rr_invV0_no (S' := []) (L' := [some (.inr (.inr (am_get (am_put ω (am_get ω (am_get ω l0.toNat 3).toNat l2.toNat).toNat l5.toNat ((-1))) l0.toNat 0))), some (.inl l3), some (.inl l2)]) (m' := (62, 0)) rfl rfl rfl rfl rfl rfl h) (fun h4 => ?_)
    refine bi_cg (fun z1 ω1 => ?_)
    refine Eq.trans (rr_istore (L' := [some (.inr (.inr l0)), some (.inr (.inr l1)), some (.inl l2), some (.inl l3), some (.inl l4), some (.inl l5), some (.inl s0), some (.inl z1)]) rfl rfl) ?_
    refine Eq.trans (rr_aload_n rfl rfl) ?_
    refine ck_it (fun h => rr_getfr rfl rfl rfl h) (fun h => rr_getfield_no rfl rfl h) (fun h5 => ?_)
    refine Eq.trans (rr_iload_n rfl rfl) ?_
    refine ck_it (fun h => rr_aaload rfl h) (fun h => rr_aaload_no rfl h) (fun h6 => ?_)
    refine Eq.trans (rr_iload rfl rfl) ?_
    refine Eq.trans (rr_iload rfl rfl) ?_
    refine Eq.trans (rr_bipush rfl rfl) ?_
    refine Eq.trans (rr_imul rfl) ?_
    refine Eq.trans (rr_aload_n rfl rfl) ?_
    refine Eq.trans (rr_getfr rfl rfl rfl h5) ?_
    refine Eq.trans (rr_iload_n rfl rfl) ?_
    refine Eq.trans (rr_iload rfl rfl) ?_
    refine Eq.trans (rr_iload rfl rfl) ?_
    refine ck_it (fun h => rr_invV0i (S' := [.inl (am_w (z1 * 20)), .inl l5, .inr (.inr (am_get ω1 (am_get ω1 l0.toNat 3).toNat l2.toNat))]) (L' := [some (.inr (.inr (am_get ω1 l0.toNat 0))), some (.inl l3), some (.inl l4), some (.inl z1), none, none, none]) (m' := (71, 0)) rfl rfl rfl rfl rfl rfl h) (fun h => rr_invV0_no (S' := [.inl (am_w (z1 * 20)), .inl l5, .inr (.inr (am_get ω1 (am_get ω1 l0.toNat 3).toNat l2.toNat))]) (L' := [some (.inr (.inr (am_get ω1 l0.toNat 0))), some (.inl l3), some (.inl l4), some (.inl z1), none, none, none]) (m' := (71, 0)) rfl rfl rfl rfl rfl rfl h) (fun h7 => ?_)
    refine bi_cg (fun z2 ω2 => ?_)
    refine Eq.trans (rr_iadd rfl) ?_
    refine ck_it (fun h => rr_iastore rfl h) (fun h => rr_iastore_no rfl h) (fun h8 => ?_)
    rfl
theorem pX1_chartChange_86 (l0 l1 l2 l3 l4 l5 l6 l7 : Int) (ω : am_W) (h1 : am_is ω l0 (1, 15) = true) (h3 : am_is ω (am_get ω l0.toNat 0) (5, 8) = true) : am_run (11, 0) 86 ([some (.inr (.inr l0)), some (.inr (.inr l1)), some (.inl l2), some (.inl l3), some (.inl l4), some (.inl l5), some (.inl l6), some (.inl l7)], [], ω) = if am_ina ω (am_get ω l0.toNat 4) l2 = true then (am_bi (am_run (70, 0) 0 ([some (.inr (.inr (am_get ω l0.toNat 0))), some (.inl l3)], [], ω)) (fun z1 ω1 => if am_in ω1 (am_get ω (am_get ω l0.toNat 4).toNat l2.toNat) 100 l5 = true then (if am_is (am_put ω1 (am_get ω (am_get ω l0.toNat 4).toNat l2.toNat).toNat l5.toNat z1) l0 (1, 15) = true then (if am_ina (am_put ω1 (am_get ω (am_get ω l0.toNat 4).toNat l2.toNat).toNat l5.toNat z1) (am_get (am_put ω1 (am_get ω (am_get ω l0.toNat 4).toNat l2.toNat).toNat l5.toNat z1) l0.toNat 5) l2 = true then (if am_in (am_put ω1 (am_get ω (am_get ω l0.toNat 4).toNat l2.toNat).toNat l5.toNat z1) (am_get (am_put ω1 (am_get ω (am_get ω l0.toNat 4).toNat l2.toNat).toNat l5.toNat z1) (am_get (am_put ω1 (am_get ω (am_get ω l0.toNat 4).toNat l2.toNat).toNat l5.toNat z1) l0.toNat 5).toNat l2.toNat) 100 l5 = true then (some (none, am_put (am_put ω1 (am_get ω (am_get ω l0.toNat 4).toNat l2.toNat).toNat l5.toNat z1) (am_get (am_put ω1 (am_get ω (am_get ω l0.toNat 4).toNat l2.toNat).toNat l5.toNat z1) (am_get (am_put ω1 (am_get ω (am_get ω l0.toNat 4).toNat l2.toNat).toNat l5.toNat z1) l0.toNat 5).toNat l2.toNat).toNat l5.toNat l6)) else none) else none) else none) else none)) else none := by
  refine Eq.trans (rr_aload_n rfl rfl) ?_
  refine Eq.trans (rr_getfr rfl rfl rfl h1) ?_
  refine Eq.trans (rr_iload_n rfl rfl) ?_
  refine ck_it (fun h => rr_aaload rfl h) (fun h => rr_aaload_no rfl h) (fun h2 => ?_)
  refine Eq.trans (rr_iload rfl rfl) ?_
  refine Eq.trans (rr_aload_n rfl rfl) ?_
  refine Eq.trans (rr_getfr rfl rfl rfl h1) ?_
  refine Eq.trans (rr_iload_n rfl rfl) ?_
  refine Eq.trans (rr_invV0i (S' := [.inl l5, .inr (.inr (am_get ω (am_get ω l0.toNat 4).toNat l2.toNat))]) (L' := [some (.inr (.inr (am_get ω l0.toNat 0))), some (.inl l3)]) (m' := (70, 0)) rfl rfl rfl rfl rfl rfl h3) ?_
  refine bi_cg (fun z1 ω1 => ?_)
  refine ck_it (fun h => rr_iastore rfl h) (fun h => rr_iastore_no rfl h) (fun h4 => ?_)
  refine Eq.trans (rr_aload_n rfl rfl) ?_
  refine ck_it (fun h => rr_getfr rfl rfl rfl h) (fun h => rr_getfield_no rfl rfl h) (fun h5 => ?_)
  refine Eq.trans (rr_iload_n rfl rfl) ?_
  refine ck_it (fun h => rr_aaload rfl h) (fun h => rr_aaload_no rfl h) (fun h6 => ?_)
  refine Eq.trans (rr_iload rfl rfl) ?_
  refine Eq.trans (rr_iload rfl rfl) ?_
  refine ck_it (fun h => rr_iastore rfl h) (fun h => rr_iastore_no rfl h) (fun h7 => ?_)
  exact rr_return rfl rfl
theorem pX1_gather_0 (l0 l1 : Int) (ω : am_W) (h1 : am_is ω l0 (1, 15) = true) : am_run (12, 0) 0 ([some (.inr (.inr l0)), some (.inl l1), none], [], ω) = am_run (12, 0) 7 ([some (.inr (.inr l0)), some (.inl l1), some (.inl 0)], [], am_put ω l0.toNat 10 0) := by
  refine Eq.trans (rr_aload_n rfl rfl) ?_
  refine Eq.trans (rr_iconst rfl rfl) ?_
  refine Eq.trans (rr_putfieldi rfl rfl rfl h1) ?_
  refine Eq.trans (rr_iconst rfl rfl) ?_
  refine Eq.trans (rr_istore_n (L' := [some (.inr (.inr l0)), some (.inl l1), some (.inl 0)]) rfl rfl) ?_
  rfl
theorem pX1_gather_7 (l0 l1 l2 : Int) (ω : am_W) (h1 : am_is ω l0 (1, 15) = true) (h2 : am_is ω (am_get ω l0.toNat 0) (5, 8) = true) : am_run (12, 0) 7 ([some (.inr (.inr l0)), some (.inl l1), some (.inl l2)], [], ω) = if (am_get ω (am_get ω l0.toNat 0).toNat 3) ≤ l2 then (if ¬ (am_get ω l0.toNat 10) = 0 then (some (none, am_put ω l0.toNat 11 (am_w ((am_shl 1 (am_get ω l0.toNat 10)) - 1)))) else (some (none, am_put ω l0.toNat 11 1))) else (if 3 ≤ (am_get ω l0.toNat 10) then (if ¬ (am_get ω l0.toNat 10) = 0 then (some (none, am_put ω l0.toNat 11 (am_w ((am_shl 1 (am_get ω l0.toNat 10)) - 1)))) else (some (none, am_put ω l0.toNat 11 1))) else (if (am_and l1 (am_shl 1 l2)) = 0 then (am_run (12, 0) 54 ([some (.inr (.inr l0)), some (.inl l1), some (.inl l2)], [], ω)) else (if am_in ω (am_get ω l0.toNat 8) 100 (am_get ω l0.toNat 10) = true then (am_run (12, 0) 54 ([some (.inr (.inr l0)), some (.inl l1), some (.inl l2)], [], am_put (am_put ω (am_get ω l0.toNat 8).toNat (am_get ω l0.toNat 10).toNat l2) l0.toNat 10 (am_w ((am_get (am_put ω (am_get ω l0.toNat 8).toNat (am_get ω l0.toNat 10).toNat l2) l0.toNat 10) + 1)))) else none))) := by
  refine Eq.trans (rr_iload_n rfl rfl) ?_
  refine Eq.trans (rr_aload_n rfl rfl) ?_
  refine Eq.trans (rr_getfr rfl rfl rfl h1) ?_
  refine Eq.trans (rr_getfi rfl rfl rfl h2) ?_
  refine Eq.trans (rr_icmp_ge rfl rfl) (it_cg (fun _ => ?_) (fun _ => ?_))
  · refine Eq.trans (rr_aload_n rfl rfl) ?_
    refine Eq.trans (rr_aload_n rfl rfl) ?_
    refine Eq.trans (rr_getfi rfl rfl rfl h1) ?_
    refine Eq.trans (rr_if_ne rfl rfl) (it_cg (fun _ => ?_) (fun _ => ?_))
    · refine Eq.trans (rr_iconst rfl rfl) ?_
      refine Eq.trans (rr_aload_n rfl rfl) ?_
      refine Eq.trans (rr_getfi rfl rfl rfl h1) ?_
      refine Eq.trans (rr_ishl rfl) ?_
      refine Eq.trans (rr_iconst rfl rfl) ?_
      refine Eq.trans (rr_isub rfl) ?_
      refine Eq.trans (rr_putfieldi rfl rfl rfl h1) ?_
      exact rr_return rfl rfl
    · refine Eq.trans (rr_iconst rfl rfl) ?_
      refine Eq.trans (rr_goto rfl rfl) ?_
      refine Eq.trans (rr_putfieldi rfl rfl rfl h1) ?_
      exact rr_return rfl rfl
  · refine Eq.trans (rr_aload_n rfl rfl) ?_
    refine Eq.trans (rr_getfi rfl rfl rfl h1) ?_
    refine Eq.trans (rr_iconst rfl rfl) ?_
    refine Eq.trans (rr_icmp_ge rfl rfl) (it_cg (fun _ => ?_) (fun _ => ?_))
    · refine Eq.trans (rr_aload_n rfl rfl) ?_
      refine Eq.trans (rr_aload_n rfl rfl) ?_
      refine Eq.trans (rr_getfi rfl rfl rfl h1) ?_
      refine Eq.trans (rr_if_ne rfl rfl) (it_cg (fun _ => ?_) (fun _ => ?_))
      · refine Eq.trans (rr_iconst rfl rfl) ?_
        refine Eq.trans (rr_aload_n rfl rfl) ?_
        refine Eq.trans (rr_getfi rfl rfl rfl h1) ?_
        refine Eq.trans (rr_ishl rfl) ?_
        refine Eq.trans (rr_iconst rfl rfl) ?_
        refine Eq.trans (rr_isub rfl) ?_
        refine Eq.trans (rr_putfieldi rfl rfl rfl h1) ?_
        exact rr_return rfl rfl
      · refine Eq.trans (rr_iconst rfl rfl) ?_
        refine Eq.trans (rr_goto rfl rfl) ?_
        refine Eq.trans (rr_putfieldi rfl rfl rfl h1) ?_
        exact rr_return rfl rfl
    · refine Eq.trans (rr_iload_n rfl rfl) ?_
      refine Eq.trans (rr_iconst rfl rfl) ?_
      refine Eq.trans (rr_iload_n rfl rfl) ?_
      refine Eq.trans (rr_ishl rfl) ?_
      refine Eq.trans (rr_iand rfl) ?_
      refine Eq.trans (rr_if_eq rfl rfl) (it_cg (fun _ => ?_) (fun _ => ?_))
      · rfl
      · refine Eq.trans (rr_aload_n rfl rfl) ?_
        refine Eq.trans (rr_getfr rfl rfl rfl h1) ?_
        refine Eq.trans (rr_aload_n rfl rfl) ?_
        refine Eq.trans (rr_getfi rfl rfl rfl h1) ?_
        refine Eq.trans (rr_iload_n rfl rfl) ?_
        refine ck_it (fun h => rr_iastore rfl h) (fun h => rr_iastore_no rfl h) (fun h3 => ?_)
        refine Eq.trans (rr_aload_n rfl rfl) ?_
        refine Eq.trans (rr_dupr rfl) ?_
        refine Eq.trans (rr_getfi rfl rfl rfl h1) ?_
        refine Eq.trans (rr_iconst rfl rfl) ?_
        refine Eq.trans (rr_iadd rfl) ?_
        refine Eq.trans (rr_putfieldi rfl rfl rfl h1) ?_
        rfl
theorem pX1_gather_54 (l0 l1 l2 : Int) (ω : am_W) : am_run (12, 0) 54 ([some (.inr (.inr l0)), some (.inl l1), some (.inl l2)], [], ω) = am_run (12, 0) 7 ([some (.inr (.inr l0)), some (.inl l1), some (.inl (am_w (l2 + 1)))], [], ω) := by
  refine Eq.trans (rr_iinc (L' := [some (.inr (.inr l0)), some (.inl l1), some (.inl (am_w (l2 + 1)))]) rfl rfl rfl) ?_
  refine Eq.trans (rr_goto rfl rfl) ?_
  rfl
theorem pX1_visit_0 (l0 l1 : Int) (ω : am_W) : am_run (13, 0) 0 ([some (.inr (.inr l0)), some (.inl l1), none, none, none, none, none], [], ω) = am_run (13, 0) 2 ([some (.inr (.inr l0)), some (.inl l1), some (.inl 0), none, none, none, none], [], ω) := by
  refine Eq.trans (rr_iconst rfl rfl) ?_
  refine Eq.trans (rr_istore_n (L' := [some (.inr (.inr l0)), some (.inl l1), some (.inl 0), none, none, none, none]) rfl rfl) ?_
  rfl
theorem pX1_visit_2 (l0 l1 l2 : Int) (o3 o4 o5 o6 : Option am_V) (ω : am_W) (h1 : am_is ω l0 (1, 15) = true) (h2 : am_is ω (am_get ω l0.toNat 0) (5, 8) = true) : am_run (13, 0) 2 ([some (.inr (.inr l0)), some (.inl l1), some (.inl l2), o3, o4, o5, o6], [], ω) = if (am_get ω l0.toNat 10) ≤ l2 then (am_bi (am_run (21, 0) 0 ([some (.inl l1)], [], ω)) (fun z1 ω1 => am_run (13, 0) 51 ([some (.inr (.inr l0)), some (.inl l1), some (.inl z1), some (.inl 0), o4, o5, o6], [], ω1))) else (if am_in ω (am_get ω l0.toNat 8) 100 l2 = true then (if am_ina ω (am_get ω (am_get ω l0.toNat 0).toNat 4) (am_get ω (am_get ω l0.toNat 8).toNat l2.toNat) = true then (am_bi (am_run (81, 0) 0 ([some (.inr (.inr (am_get ω l0.toNat 0))), some (.inr (.inr (am_get ω (am_get ω (am_get ω l0.toNat 0).toNat 4).toNat (am_get ω (am_get ω l0.toNat 8).toNat l2.toNat).toNat))), some (.inl l1)], [], ω)) (fun z2 ω2 => if am_in ω2 (am_get ω l0.toNat 9) 100 l2 = true then (am_run (13, 0) 2 ([some (.inr (.inr l0)), some (.inl l1), some (.inl (am_w (l2 + 1))), o3, o4, o5, o6], [], am_put ω2 (am_get ω l0.toNat 9).toNat l2.toNat z2)) else none)) else none) else none) := by
  refine Eq.trans (rr_iload_n rfl rfl) ?_
  refine Eq.trans (rr_aload_n rfl rfl) ?_
  refine Eq.trans (rr_getfi rfl rfl rfl h1) ?_
  refine Eq.trans (rr_icmp_ge rfl rfl) (it_cg (fun _ => ?_) (fun _ => ?_))
  · refine Eq.trans (rr_iload_n rfl rfl) ?_
    refine Eq.trans (rr_invS2i (S' := []) (L' := [some (.inl l1)]) (m' := (21, 0)) rfl rfl rfl rfl rfl rfl) ?_
    refine bi_cg (fun z1 ω1 => ?_)
    refine Eq.trans (rr_istore_n (L' := [some (.inr (.inr l0)), some (.inl l1), some (.inl z1), o3, o4, o5, o6]) rfl rfl) ?_
    refine Eq.trans (rr_iconst rfl rfl) ?_
    refine Eq.trans (rr_istore_n (L' := [some (.inr (.inr l0)), some (.inl l1), some (.inl z1), some (.inl 0), o4, o5, o6]) rfl rfl) ?_
    rfl
  · refine Eq.trans (rr_aload_n rfl rfl) ?_
    refine Eq.trans (rr_getfr rfl rfl rfl h1) ?_
    refine Eq.trans (rr_iload_n rfl rfl) ?_
    refine Eq.trans (rr_aload_n rfl rfl) ?_
    refine Eq.trans (rr_getfr rfl rfl rfl h1) ?_
    refine Eq.trans (rr_aload_n rfl rfl) ?_
    refine Eq.trans (rr_getfr rfl rfl rfl h1) ?_
    refine Eq.trans (rr_getfr rfl rfl rfl h2) ?_
    refine Eq.trans (rr_aload_n rfl rfl) ?_
    refine Eq.trans (rr_getfr rfl rfl rfl h1) ?_
    refine Eq.trans (rr_iload_n rfl rfl) ?_
    refine ck_it (fun h => rr_iaload rfl rfl h) (fun h => rr_iaload_no rfl rfl h) (fun h3 => ?_)
    refine ck_it (fun h => rr_aaload rfl h) (fun h => rr_aaload_no rfl h) (fun h4 => ?_)
    refine Eq.trans (rr_iload_n rfl rfl) ?_
    refine Eq.trans (rr_invV0i (S' := [.inl l2, .inr (.inr (am_get ω l0.toNat 9))]) (L' := [some (.inr (.inr (am_get ω l0.toNat 0))), some (.inr (.inr (am_get ω (am_get ω (am_get ω l0.toNat 0).toNat 4).toNat (am_get ω (am_get ω l0.toNat 8).toNat l2.toNat).toNat))), some (.inl l1)]) (m' := (81, 0)) rfl rfl rfl rfl rfl rfl h2) ?_
    refine bi_cg (fun z2 ω2 => ?_)
    refine ck_it (fun h => rr_iastore rfl h) (fun h => rr_iastore_no rfl h) (fun h5 => ?_)
    refine Eq.trans (rr_iinc (L' := [some (.inr (.inr l0)), some (.inl l1), some (.inl (am_w (l2 + 1))), o3, o4, o5, o6]) rfl rfl rfl) ?_
    refine Eq.trans (rr_goto rfl rfl) ?_
    rfl
theorem pX1_visit_51 (l0 l1 l2 l3 : Int) (o4 o5 o6 : Option am_V) (ω : am_W) (h1 : am_is ω l0 (1, 15) = true) : am_run (13, 0) 51 ([some (.inr (.inr l0)), some (.inl l1), some (.inl l2), some (.inl l3), o4, o5, o6], [], ω) = if (am_get ω l0.toNat 11) ≤ l3 then (some (none, ω)) else (if 7 ≤ l3 then (some (none, ω)) else (am_run (13, 0) 68 ([some (.inr (.inr l0)), some (.inl l1), some (.inl l2), some (.inl l3), some (.inl 0), o5, o6], [], ω))) := by
  refine Eq.trans (rr_iload_n rfl rfl) ?_
  refine Eq.trans (rr_aload_n rfl rfl) ?_
  refine Eq.trans (rr_getfi rfl rfl rfl h1) ?_
  refine Eq.trans (rr_icmp_ge rfl rfl) (it_cg (fun _ => ?_) (fun _ => ?_))
  · exact rr_return rfl rfl
  · refine Eq.trans (rr_iload_n rfl rfl) ?_
    refine Eq.trans (rr_bipush rfl rfl) ?_
    refine Eq.trans (rr_icmp_ge rfl rfl) (it_cg (fun _ => ?_) (fun _ => ?_))
    · exact rr_return rfl rfl
    · refine Eq.trans (rr_iconst rfl rfl) ?_
      refine Eq.trans (rr_istore (L' := [some (.inr (.inr l0)), some (.inl l1), some (.inl l2), some (.inl l3), some (.inl 0), o5, o6]) rfl rfl) ?_
      rfl
theorem pX1_visit_68 (l0 l1 l2 l3 l4 : Int) (o5 o6 : Option am_V) (ω : am_W) (h1 : am_is ω l0 (1, 15) = true) : am_run (13, 0) 68 ([some (.inr (.inr l0)), some (.inl l1), some (.inl l2), some (.inl l3), some (.inl l4), o5, o6], [], ω) = if (am_get ω l0.toNat 2) ≤ l4 then (am_run (13, 0) 51 ([some (.inr (.inr l0)), some (.inl l1), some (.inl l2), some (.inl (am_w (l3 + 1))), some (.inl l4), o5, o6], [], ω)) else (if am_in ω (am_get ω l0.toNat 1) 100 l4 = true then (if am_ina ω (am_get ω l0.toNat 6) l3 = true then (if am_in ω (am_get ω (am_get ω l0.toNat 6).toNat l3.toNat) 100 (am_w (l2 + (am_get ω (am_get ω l0.toNat 1).toNat l4.toNat))) = true then (if (am_get ω (am_get ω (am_get ω l0.toNat 6).toNat l3.toNat).toNat (am_w (l2 + (am_get ω (am_get ω l0.toNat 1).toNat l4.toNat))).toNat) = 1000000 then (am_run (13, 0) 68 ([some (.inr (.inr l0)), some (.inl l1), some (.inl l2), some (.inl l3), some (.inl (am_w (l4 + 1))), some (.inl (am_get ω (am_get ω l0.toNat 1).toNat l4.toNat)), some (.inl (am_get ω (am_get ω (am_get ω l0.toNat 6).toNat l3.toNat).toNat (am_w (l2 + (am_get ω (am_get ω l0.toNat 1).toNat l4.toNat))).toNat))], [], ω)) else (am_bv (am_run (14, 0) 0 ([some (.inr (.inr l0)), some (.inl l1), some (.inl (am_get ω (am_get ω l0.toNat 1).toNat l4.toNat)), some (.inl l3), some (.inl (am_get ω (am_get ω (am_get ω l0.toNat 6).toNat l3.toNat).toNat (am_w (l2 + (am_get ω (am_get ω l0.toNat 1).toNat l4.toNat))).toNat)), none, none], [], am_put ω (am_get ω (am_get ω l0.toNat 6).toNat l3.toNat).toNat (am_w (l2 + (am_get ω (am_get ω l0.toNat 1).toNat l4.toNat))).toNat 1000000)) (fun ω1 => am_run (13, 0) 68 ([some (.inr (.inr l0)), some (.inl l1), some (.inl l2), some (.inl l3), some (.inl (am_w (l4 + 1))), some (.inl (am_get ω (am_get ω l0.toNat 1).toNat l4.toNat)), some (.inl (am_get ω (am_get ω (am_get ω l0.toNat 6).toNat l3.toNat).toNat (am_w (l2 + (am_get ω (am_get ω l0.toNat 1).toNat l4.toNat))).toNat))], [], ω1)))) else none) else none) else none) := by
  refine Eq.trans (rr_iload rfl rfl) ?_
  refine Eq.trans (rr_aload_n rfl rfl) ?_
  refine Eq.trans (rr_getfi rfl rfl rfl h1) ?_
  refine Eq.trans (rr_icmp_ge rfl rfl) (it_cg (fun _ => ?_) (fun _ => ?_))
  · refine Eq.trans (rr_iinc (L' := [some (.inr (.inr l0)), some (.inl l1), some (.inl l2), some (.inl (am_w (l3 + 1))), some (.inl l4), o5, o6]) rfl rfl rfl) ?_
    refine Eq.trans (rr_goto rfl rfl) ?_
    rfl
  · refine Eq.trans (rr_aload_n rfl rfl) ?_
    refine Eq.trans (rr_getfr rfl rfl rfl h1) ?_
    refine Eq.trans (rr_iload rfl rfl) ?_
    refine ck_it (fun h => rr_iaload rfl rfl h) (fun h => rr_iaload_no rfl rfl h) (fun h2 => ?_)
    refine Eq.trans (rr_istore (L' := [some (.inr (.inr l0)), some (.inl l1), some (.inl l2), some (.inl l3), some (.inl l4), some (.inl (am_get ω (am_get ω l0.toNat 1).toNat l4.toNat)), o6]) rfl rfl) ?_
    refine Eq.trans (rr_aload_n rfl rfl) ?_
    refine Eq.trans (rr_getfr rfl rfl rfl h1) ?_
    refine Eq.trans (rr_iload_n rfl rfl) ?_
    refine ck_it (fun h => rr_aaload rfl h) (fun h => rr_aaload_no rfl h) (fun h3 => ?_)
    refine Eq.trans (rr_iload_n rfl rfl) ?_
    refine Eq.trans (rr_iload rfl rfl) ?_
    refine Eq.trans (rr_iadd rfl) ?_
    refine ck_it (fun h => rr_iaload rfl rfl h) (fun h => rr_iaload_no rfl rfl h) (fun h4 => ?_)
    refine Eq.trans (rr_istore (L' := [some (.inr (.inr l0)), some (.inl l1), some (.inl l2), some (.inl l3), some (.inl l4), some (.inl (am_get ω (am_get ω l0.toNat 1).toNat l4.toNat)), some (.inl (am_get ω (am_get ω (am_get ω l0.toNat 6).toNat l3.toNat).toNat (am_w (l2 + (am_get ω (am_get ω l0.toNat 1).toNat l4.toNat))).toNat))]) rfl rfl) ?_
    refine Eq.trans (rr_iload rfl rfl) ?_
    refine Eq.trans (rr_ldc rfl rfl) ?_
    refine Eq.trans (rr_icmp_eq rfl rfl) (it_cg (fun _ => ?_) (fun _ => ?_))
    · refine Eq.trans (rr_iinc (L' := [some (.inr (.inr l0)), some (.inl l1), some (.inl l2), some (.inl l3), some (.inl (am_w (l4 + 1))), some (.inl (am_get ω (am_get ω l0.toNat 1).toNat l4.toNat)), some (.inl (am_get ω (am_get ω (am_get ω l0.toNat 6).toNat l3.toNat).toNat (am_w (l2 + (am_get ω (am_get ω l0.toNat 1).toNat l4.toNat))).toNat))]) rfl rfl rfl) ?_
      refine Eq.trans (rr_goto rfl rfl) ?_
      rfl
    · refine Eq.trans (rr_aload_n rfl rfl) ?_
      refine Eq.trans (rr_getfr rfl rfl rfl h1) ?_
      refine Eq.trans (rr_iload_n rfl rfl) ?_
      refine Eq.trans (rr_aaload rfl h3) ?_
      refine Eq.trans (rr_iload_n rfl rfl) ?_
      refine Eq.trans (rr_iload rfl rfl) ?_
      refine Eq.trans (rr_iadd rfl) ?_
      refine Eq.trans (rr_ldc rfl rfl) ?_
      refine Eq.trans (rr_iastore rfl h4) ?_
      refine Eq.trans (rr_aload_n rfl rfl) ?_
      refine Eq.trans (rr_iload_n rfl rfl) ?_
      refine Eq.trans (rr_iload rfl rfl) ?_
      refine Eq.trans (rr_iload_n rfl rfl) ?_
      refine Eq.trans (rr_iload rfl rfl) ?_
      refine Eq.trans (rr_invV0v (S' := []) (L' := [some (.inr (.inr l0)), some (.inl l1), some (.inl (am_get ω (am_get ω l0.toNat 1).toNat l4.toNat)), some (.inl l3), some (.inl (am_get ω (am_get ω (am_get ω l0.toNat 6).toNat l3.toNat).toNat (am_w (l2 + (am_get ω (am_get ω l0.toNat 1).toNat l4.toNat))).toNat)), none, none]) (m' := (14, 0)) rfl rfl rfl rfl rfl rfl h1) ?_
      refine bv_cg (fun ω1 => ?_)
      refine Eq.trans (rr_iinc (L' := [some (.inr (.inr l0)), some (.inl l1), some (.inl l2), some (.inl l3), some (.inl (am_w (l4 + 1))), some (.inl (am_get ω (am_get ω l0.toNat 1).toNat l4.toNat)), some (.inl (am_get ω (am_get ω (am_get ω l0.toNat 6).toNat l3.toNat).toNat (am_w (l2 + (am_get ω (am_get ω l0.toNat 1).toNat l4.toNat))).toNat))]) rfl rfl rfl) ?_
      refine Eq.trans (rr_goto rfl rfl) ?_
      rfl
theorem pX1_arrive_0 (l0 l1 l2 l3 l4 : Int) (ω : am_W) (h1 : am_is ω l0 (1, 15) = true) : am_run (14, 0) 0 ([some (.inr (.inr l0)), some (.inl l1), some (.inl l2), some (.inl l3), some (.inl l4), none, none], [], ω) = if l4 ≤ (am_get ω l0.toNat 12) then (am_run (14, 0) 16 ([some (.inr (.inr l0)), some (.inl l1), some (.inl l2), some (.inl l3), some (.inl l4), some (.inl l3), some (.inl 0)], [], ω)) else (some (none, ω)) := by
  refine Eq.trans (rr_iload rfl rfl) ?_
  refine Eq.trans (rr_aload_n rfl rfl) ?_
  refine Eq.trans (rr_getfi rfl rfl rfl h1) ?_
  refine Eq.trans (rr_icmp_le rfl rfl) (it_cg (fun _ => ?_) (fun _ => ?_))
  · refine Eq.trans (rr_iload_n rfl rfl) ?_
    refine Eq.trans (rr_istore (L' := [some (.inr (.inr l0)), some (.inl l1), some (.inl l2), some (.inl l3), some (.inl l4), some (.inl l3), none]) rfl rfl) ?_
    refine Eq.trans (rr_iconst rfl rfl) ?_
    refine Eq.trans (rr_istore (L' := [some (.inr (.inr l0)), some (.inl l1), some (.inl l2), some (.inl l3), some (.inl l4), some (.inl l3), some (.inl 0)]) rfl rfl) ?_
    rfl
  · exact rr_return rfl rfl
theorem pX1_arrive_16 (l0 l1 l2 l3 l4 l5 l6 : Int) (ω : am_W) (h1 : am_is ω l0 (1, 15) = true) : am_run (14, 0) 16 ([some (.inr (.inr l0)), some (.inl l1), some (.inl l2), some (.inl l3), some (.inl l4), some (.inl l5), some (.inl l6)], [], ω) = if (am_get ω l0.toNat 10) ≤ l6 then (if ¬ l5 = (am_get ω l0.toNat 11) then (am_bv (am_run (16, 0) 0 ([some (.inr (.inr l0)), some (.inl l1), some (.inl l2), some (.inl l5), some (.inl l4), none, none, none, none], [], ω)) (fun ω1 => some (none, ω1))) else (am_bv (am_run (15, 0) 0 ([some (.inr (.inr l0)), some (.inl l1), some (.inl l4)], [], ω)) (fun ω2 => some (none, ω2)))) else (if am_in ω (am_get ω l0.toNat 9) 100 l6 = true then (if ¬ (am_get ω (am_get ω l0.toNat 9).toNat l6.toNat) = l2 then (am_run (14, 0) 16 ([some (.inr (.inr l0)), some (.inl l1), some (.inl l2), some (.inl l3), some (.inl l4), some (.inl l5), some (.inl (am_w (l6 + 1)))], [], ω)) else (am_run (14, 0) 16 ([some (.inr (.inr l0)), some (.inl l1), some (.inl l2), some (.inl l3), some (.inl l4), some (.inl (am_or l5 (am_shl 1 l6))), some (.inl (am_w (l6 + 1)))], [], ω))) else none) := by
  refine Eq.trans (rr_iload rfl rfl) ?_
  refine Eq.trans (rr_aload_n rfl rfl) ?_
  refine Eq.trans (rr_getfi rfl rfl rfl h1) ?_
  refine Eq.trans (rr_icmp_ge rfl rfl) (it_cg (fun _ => ?_) (fun _ => ?_))
  · refine Eq.trans (rr_iload rfl rfl) ?_
    refine Eq.trans (rr_aload_n rfl rfl) ?_
    refine Eq.trans (rr_getfi rfl rfl rfl h1) ?_
    refine Eq.trans (rr_icmp_ne rfl rfl) (it_cg (fun _ => ?_) (fun _ => ?_))
    · refine Eq.trans (rr_aload_n rfl rfl) ?_
      refine Eq.trans (rr_iload_n rfl rfl) ?_
      refine Eq.trans (rr_iload_n rfl rfl) ?_
      refine Eq.trans (rr_iload rfl rfl) ?_
      refine Eq.trans (rr_iload rfl rfl) ?_
      refine Eq.trans (rr_invV0v (S' := []) (L' := [some (.inr (.inr l0)), some (.inl l1), some (.inl l2), some (.inl l5), some (.inl l4), none, none, none, none]) (m' := (16, 0)) rfl rfl rfl rfl rfl rfl h1) ?_
      refine bv_cg (fun ω1 => ?_)
      exact rr_return rfl rfl
    · refine Eq.trans (rr_aload_n rfl rfl) ?_
      refine Eq.trans (rr_iload_n rfl rfl) ?_
      refine Eq.trans (rr_iload rfl rfl) ?_
      refine Eq.trans (rr_invV0v (S' := []) (L' := [some (.inr (.inr l0)), some (.inl l1), some (.inl l4)]) (m' := (15, 0)) rfl rfl rfl rfl rfl rfl h1) ?_
      refine bv_cg (fun ω2 => ?_)
      refine Eq.trans (rr_goto rfl rfl) ?_
      exact rr_return rfl rfl
  · refine Eq.trans (rr_aload_n rfl rfl) ?_
    refine Eq.trans (rr_getfr rfl rfl rfl h1) ?_
    refine Eq.trans (rr_iload rfl rfl) ?_
    refine ck_it (fun h => rr_iaload rfl rfl h) (fun h => rr_iaload_no rfl rfl h) (fun h2 => ?_)
    refine Eq.trans (rr_iload_n rfl rfl) ?_
    refine Eq.trans (rr_icmp_ne rfl rfl) (it_cg (fun _ => ?_) (fun _ => ?_))
    · refine Eq.trans (rr_iinc (L' := [some (.inr (.inr l0)), some (.inl l1), some (.inl l2), some (.inl l3), some (.inl l4), some (.inl l5), some (.inl (am_w (l6 + 1)))]) rfl rfl rfl) ?_
      refine Eq.trans (rr_goto rfl rfl) ?_
      rfl
    · refine Eq.trans (rr_iload rfl rfl) ?_
      refine Eq.trans (rr_iconst rfl rfl) ?_
      refine Eq.trans (rr_iload rfl rfl) ?_
      refine Eq.trans (rr_ishl rfl) ?_
      refine Eq.trans (rr_ior rfl) ?_
      refine Eq.trans (rr_istore (L' := [some (.inr (.inr l0)), some (.inl l1), some (.inl l2), some (.inl l3), some (.inl l4), some (.inl (am_or l5 (am_shl 1 l6))), some (.inl l6)]) rfl rfl) ?_
      refine Eq.trans (rr_iinc (L' := [some (.inr (.inr l0)), some (.inl l1), some (.inl l2), some (.inl l3), some (.inl l4), some (.inl (am_or l5 (am_shl 1 l6))), some (.inl (am_w (l6 + 1)))]) rfl rfl rfl) ?_
      refine Eq.trans (rr_goto rfl rfl) ?_
      rfl
theorem pX1_finish_0 (l0 l1 l2 : Int) (ω : am_W) (h1 : am_is ω l0 (1, 15) = true) : am_run (15, 0) 0 ([some (.inr (.inr l0)), some (.inl l1), some (.inl l2)], [], ω) = if ¬ (am_get (am_put (am_put ω l0.toNat 13 l2) l0.toNat 12 (am_w (l2 - 1))) l0.toNat 14) = ((-1)) then (some (none, am_put (am_put ω l0.toNat 13 l2) l0.toNat 12 (am_w (l2 - 1)))) else (some (none, am_put (am_put (am_put ω l0.toNat 13 l2) l0.toNat 12 (am_w (l2 - 1))) l0.toNat 14 l1)) := by
  refine Eq.trans (rr_aload_n rfl rfl) ?_
  refine Eq.trans (rr_iload_n rfl rfl) ?_
  refine Eq.trans (rr_putfieldi rfl rfl rfl h1) ?_
  refine Eq.trans (rr_aload_n rfl rfl) ?_
  refine Eq.trans (rr_iload_n rfl rfl) ?_
  refine Eq.trans (rr_iconst rfl rfl) ?_
  refine Eq.trans (rr_isub rfl) ?_
  refine Eq.trans (rr_putfieldi rfl rfl rfl h1) ?_
  refine Eq.trans (rr_aload_n rfl rfl) ?_
  refine Eq.trans (rr_getfi rfl rfl rfl h1) ?_
  refine Eq.trans (rr_iconst rfl rfl) ?_
  refine Eq.trans (rr_icmp_ne rfl rfl) (it_cg (fun _ => ?_) (fun _ => ?_))
  · exact rr_return rfl rfl
  · refine Eq.trans (rr_aload_n rfl rfl) ?_
    refine Eq.trans (rr_iload_n rfl rfl) ?_
    refine Eq.trans (rr_putfieldi rfl rfl rfl h1) ?_
    exact rr_return rfl rfl
theorem pX1_spread_0 (l0 l1 l2 l3 l4 : Int) (ω : am_W) : am_run (16, 0) 0 ([some (.inr (.inr l0)), some (.inl l1), some (.inl l2), some (.inl l3), some (.inl l4), none, none, none, none], [], ω) = am_run (16, 0) 3 ([some (.inr (.inr l0)), some (.inl l1), some (.inl l2), some (.inl l3), some (.inl l4), some (.inl 0), none, none, none], [], ω) := by
  refine Eq.trans (rr_iconst rfl rfl) ?_
  refine Eq.trans (rr_istore (L' := [some (.inr (.inr l0)), some (.inl l1), some (.inl l2), some (.inl l3), some (.inl l4), some (.inl 0), none, none, none]) rfl rfl) ?_
  rfl
theorem pX1_spread_3 (l0 l1 l2 l3 l4 l5 : Int) (o6 o7 o8 : Option am_V) (ω : am_W) (h1 : am_is ω l0 (1, 15) = true) : am_run (16, 0) 3 ([some (.inr (.inr l0)), some (.inl l1), some (.inl l2), some (.inl l3), some (.inl l4), some (.inl l5), o6, o7, o8], [], ω) = if 3 ≤ l5 then (some (none, ω)) else (if am_ina ω (am_get ω l0.toNat 3) l5 = true then (if am_in ω (am_get ω (am_get ω l0.toNat 3).toNat l5.toNat) 100 l2 = true then (if am_ina ω (am_get ω l0.toNat 5) l5 = true then (if am_in ω (am_get ω (am_get ω l0.toNat 5).toNat l5.toNat) 100 l2 = true then (if (am_get ω (am_get ω (am_get ω l0.toNat 3).toNat l5.toNat).toNat l2.toNat) = ((-1)) then (am_run (16, 0) 3 ([some (.inr (.inr l0)), some (.inl l1), some (.inl l2), some (.inl l3), some (.inl l4), some (.inl (am_w (l5 + 1))), some (.inl (am_get ω (am_get ω (am_get ω l0.toNat 3).toNat l5.toNat).toNat l2.toNat)), some (.inl (am_w (l4 + (am_get ω (am_get ω (am_get ω l0.toNat 5).toNat l5.toNat).toNat l2.toNat)))), o8], [], ω)) else (if (am_get ω l0.toNat 12) < (am_w (l4 + (am_get ω (am_get ω (am_get ω l0.toNat 5).toNat l5.toNat).toNat l2.toNat))) then (am_run (16, 0) 3 ([some (.inr (.inr l0)), some (.inl l1), some (.inl l2), some (.inl l3), some (.inl l4), some (.inl (am_w (l5 + 1))), some (.inl (am_get ω (am_get ω (am_get ω l0.toNat 3).toNat l5.toNat).toNat l2.toNat)), some (.inl (am_w (l4 + (am_get ω (am_get ω (am_get ω l0.toNat 5).toNat l5.toNat).toNat l2.toNat)))), o8], [], ω)) else (if am_ina ω (am_get ω l0.toNat 4) l5 = true then (if am_in ω (am_get ω (am_get ω l0.toNat 4).toNat l5.toNat) 100 l2 = true then (am_bi (am_run (21, 0) 0 ([some (.inl (am_w (l1 + (am_get ω (am_get ω (am_get ω l0.toNat 4).toNat l5.toNat).toNat l2.toNat))))], [], ω)) (fun z1 ω1 => if am_is ω1 l0 (1, 15) = true then (if am_ina ω1 (am_get ω1 l0.toNat 6) l3 = true then (if am_in ω1 (am_get ω1 (am_get ω1 l0.toNat 6).toNat l3.toNat) 100 (am_w (z1 + (am_get ω (am_get ω (am_get ω l0.toNat 3).toNat l5.toNat).toNat l2.toNat))) = true then (am_bi (am_run (237, 0) 0 ([some (.inl (am_w (l4 + (am_get ω (am_get ω (am_get ω l0.toNat 5).toNat l5.toNat).toNat l2.toNat)))), some (.inl (am_get ω1 (am_get ω1 (am_get ω1 l0.toNat 6).toNat l3.toNat).toNat (am_w (z1 + (am_get ω (am_get ω (am_get ω l0.toNat 3).toNat l5.toNat).toNat l2.toNat))).toNat))], [], ω1)) (fun z2 ω2 => if am_in ω2 (am_get ω1 (am_get ω1 l0.toNat 6).toNat l3.toNat) 100 (am_w (z1 + (am_get ω (am_get ω (am_get ω l0.toNat 3).toNat l5.toNat).toNat l2.toNat))) = true then (am_run (16, 0) 3 ([some (.inr (.inr l0)), some (.inl l1), some (.inl l2), some (.inl l3), some (.inl l4), some (.inl (am_w (l5 + 1))), some (.inl (am_get ω (am_get ω (am_get ω l0.toNat 3).toNat l5.toNat).toNat l2.toNat)), some (.inl (am_w (l4 + (am_get ω (am_get ω (am_get ω l0.toNat 5).toNat l5.toNat).toNat l2.toNat)))), some (.inl (am_w (z1 + (am_get ω (am_get ω (am_get ω l0.toNat 3).toNat l5.toNat).toNat l2.toNat))))], [], am_put ω2 (am_get ω1 (am_get ω1 l0.toNat 6).toNat l3.toNat).toNat (am_w (z1 + (am_get ω (am_get ω (am_get ω l0.toNat 3).toNat l5.toNat).toNat l2.toNat))).toNat z2)) else none)) else none) else none) else none)) else none) else none))) else none) else none) else none) else none) := by
  refine Eq.trans (rr_iload rfl rfl) ?_
  refine Eq.trans (rr_iconst rfl rfl) ?_
  refine Eq.trans (rr_icmp_ge rfl rfl) (it_cg (fun _ => ?_) (fun _ => ?_))
  · exact rr_return rfl rfl
  · refine Eq.trans (rr_aload_n rfl rfl) ?_
    refine Eq.trans (rr_getfr rfl rfl rfl h1) ?_
    refine Eq.trans (rr_iload rfl rfl) ?_
    refine ck_it (fun h => rr_aaload rfl h) (fun h => rr_aaload_no rfl h) (fun h2 => ?_)
    refine Eq.trans (rr_iload_n rfl rfl) ?_
    refine ck_it (fun h => rr_iaload rfl rfl h) (fun h => rr_iaload_no rfl rfl h) (fun h3 => ?_)
    refine Eq.trans (rr_istore (L' := [some (.inr (.inr l0)), some (.inl l1), some (.inl l2), some (.inl l3), some (.inl l4), some (.inl l5), some (.inl (am_get ω (am_get ω (am_get ω l0.toNat 3).toNat l5.toNat).toNat l2.toNat)), o7, o8]) rfl rfl) ?_
    refine Eq.trans (rr_iload rfl rfl) ?_
    refine Eq.trans (rr_aload_n rfl rfl) ?_
    refine Eq.trans (rr_getfr rfl rfl rfl h1) ?_
    refine Eq.trans (rr_iload rfl rfl) ?_
    refine ck_it (fun h => rr_aaload rfl h) (fun h => rr_aaload_no rfl h) (fun h4 => ?_)
    refine Eq.trans (rr_iload_n rfl rfl) ?_
    refine ck_it (fun h => rr_iaload rfl rfl h) (fun h => rr_iaload_no rfl rfl h) (fun h5 => ?_)
    refine Eq.trans (rr_iadd rfl) ?_
    refine Eq.trans (rr_istore (L' := [some (.inr (.inr l0)), some (.inl l1), some (.inl l2), some (.inl l3), some (.inl l4), some (.inl l5), some (.inl (am_get ω (am_get ω (am_get ω l0.toNat 3).toNat l5.toNat).toNat l2.toNat)), some (.inl (am_w (l4 + (am_get ω (am_get ω (am_get ω l0.toNat 5).toNat l5.toNat).toNat l2.toNat)))), o8]) rfl rfl) ?_
    refine Eq.trans (rr_iload rfl rfl) ?_
    refine Eq.trans (rr_iconst rfl rfl) ?_
    refine Eq.trans (rr_icmp_eq rfl rfl) (it_cg (fun _ => ?_) (fun _ => ?_))
    · refine Eq.trans (rr_iinc (L' := [some (.inr (.inr l0)), some (.inl l1), some (.inl l2), some (.inl l3), some (.inl l4), some (.inl (am_w (l5 + 1))), some (.inl (am_get ω (am_get ω (am_get ω l0.toNat 3).toNat l5.toNat).toNat l2.toNat)), some (.inl (am_w (l4 + (am_get ω (am_get ω (am_get ω l0.toNat 5).toNat l5.toNat).toNat l2.toNat)))), o8]) rfl rfl rfl) ?_
      refine Eq.trans (rr_goto rfl rfl) ?_
      rfl
    · refine Eq.trans (rr_iload rfl rfl) ?_
      refine Eq.trans (rr_aload_n rfl rfl) ?_
      refine Eq.trans (rr_getfi rfl rfl rfl h1) ?_
      refine Eq.trans (rr_icmp_gt rfl rfl) (it_cg (fun _ => ?_) (fun _ => ?_))
      · refine Eq.trans (rr_iinc (L' := [some (.inr (.inr l0)), some (.inl l1), some (.inl l2), some (.inl l3), some (.inl l4), some (.inl (am_w (l5 + 1))), some (.inl (am_get ω (am_get ω (am_get ω l0.toNat 3).toNat l5.toNat).toNat l2.toNat)), some (.inl (am_w (l4 + (am_get ω (am_get ω (am_get ω l0.toNat 5).toNat l5.toNat).toNat l2.toNat)))), o8]) rfl rfl rfl) ?_
        refine Eq.trans (rr_goto rfl rfl) ?_
        rfl
      · refine Eq.trans (rr_iload_n rfl rfl) ?_
        refine Eq.trans (rr_aload_n rfl rfl) ?_
        refine Eq.trans (rr_getfr rfl rfl rfl h1) ?_
        refine Eq.trans (rr_iload rfl rfl) ?_
        refine ck_it (fun h => rr_aaload rfl h) (fun h => rr_aaload_no rfl h) (fun h6 => ?_)
        refine Eq.trans (rr_iload_n rfl rfl) ?_
        refine ck_it (fun h => rr_iaload rfl rfl h) (fun h => rr_iaload_no rfl rfl h) (fun h7 => ?_)
        refine Eq.trans (rr_iadd rfl) ?_
        refine Eq.trans (rr_invS2i (S' := []) (L' := [some (.inl (am_w (l1 + (am_get ω (am_get ω (am_get ω l0.toNat 4).toNat l5.toNat).toNat l2.toNat))))]) (m' := (21, 0)) rfl rfl rfl rfl rfl rfl) ?_
        refine bi_cg (fun z1 ω1 => ?_)
        refine Eq.trans (rr_iload rfl rfl) ?_
        refine Eq.trans (rr_iadd rfl) ?_
        refine Eq.trans (rr_istore (L' := [some (.inr (.inr l0)), some (.inl l1), some (.inl l2), some (.inl l3), some (.inl l4), some (.inl l5), some (.inl (am_get ω (am_get ω (am_get ω l0.toNat 3).toNat l5.toNat).toNat l2.toNat)), some (.inl (am_w (l4 + (am_get ω (am_get ω (am_get ω l0.toNat 5).toNat l5.toNat).toNat l2.toNat)))), some (.inl (am_w (z1 + (am_get ω (am_get ω (am_get ω l0.toNat 3).toNat l5.toNat).toNat l2.toNat))))]) rfl rfl) ?_
        refine Eq.trans (rr_aload_n rfl rfl) ?_
        refine ck_it (fun h => rr_getfr rfl rfl rfl h) (fun h => rr_getfield_no rfl rfl h) (fun h8 => ?_)
        refine Eq.trans (rr_iload_n rfl rfl) ?_
        refine ck_it (fun h => rr_aaload rfl h) (fun h => rr_aaload_no rfl h) (fun h9 => ?_)
        refine Eq.trans (rr_iload rfl rfl) ?_
        refine Eq.trans (rr_iload rfl rfl) ?_
        refine Eq.trans (rr_aload_n rfl rfl) ?_
        refine Eq.trans (rr_getfr rfl rfl rfl h8) ?_
        refine Eq.trans (rr_iload_n rfl rfl) ?_
        refine Eq.trans (rr_aaload rfl h9) ?_
        refine Eq.trans (rr_iload rfl rfl) ?_
        refine ck_it (fun h => rr_iaload rfl rfl h) (fun h => rr_iaload_no rfl rfl h) (fun h10 => ?_)
        refine Eq.trans (rr_invS2i (S' := [.inl (am_w (z1 + (am_get ω (am_get ω (am_get ω l0.toNat 3).toNat l5.toNat).toNat l2.toNat))), .inr (.inr (am_get ω1 (am_get ω1 l0.toNat 6).toNat l3.toNat))]) (L' := [some (.inl (am_w (l4 + (am_get ω (am_get ω (am_get ω l0.toNat 5).toNat l5.toNat).toNat l2.toNat)))), some (.inl (am_get ω1 (am_get ω1 (am_get ω1 l0.toNat 6).toNat l3.toNat).toNat (am_w (z1 + (am_get ω (am_get ω (am_get ω l0.toNat 3).toNat l5.toNat).toNat l2.toNat))).toNat))]) (m' := (237, 0)) rfl rfl rfl rfl rfl rfl) ?_
        refine bi_cg (fun z2 ω2 => ?_)
        refine ck_it (fun h => rr_iastore rfl h) (fun h => rr_iastore_no rfl h) (fun h11 => ?_)
        refine Eq.trans (rr_iinc (L' := [some (.inr (.inr l0)), some (.inl l1), some (.inl l2), some (.inl l3), some (.inl l4), some (.inl (am_w (l5 + 1))), some (.inl (am_get ω (am_get ω (am_get ω l0.toNat 3).toNat l5.toNat).toNat l2.toNat)), some (.inl (am_w (l4 + (am_get ω (am_get ω (am_get ω l0.toNat 5).toNat l5.toNat).toNat l2.toNat)))), some (.inl (am_w (z1 + (am_get ω (am_get ω (am_get ω l0.toNat 3).toNat l5.toNat).toNat l2.toNat))))]) rfl rfl rfl) ?_
        refine Eq.trans (rr_goto rfl rfl) ?_
        rfl
theorem pX1_codeOfWay_0 (l0 l1 l2 l3 : Int) (ω : am_W) (h1 : am_is ω l0 (1, 15) = true) : am_run (17, 0) 0 ([some (.inr (.inr l0)), some (.inr (.inr l1)), some (.inl l2), some (.inl l3), none, none, none, none, none, none], [], ω) = am_bi (am_run (6, 0) 0 ([some (.inr (.inr l0)), some (.inr (.inr l1)), some (.inl (am_shl 1 l2)), none], [], ω)) (fun z1 ω1 => if l3 < z1 then (if am_is ω1 l1 (4, 5) = true then (if am_is ω1 l0 (1, 15) = true then (if am_is ω1 (am_get ω1 l0.toNat 0) (5, 8) = true then (if am_ina ω1 (am_get ω1 (am_get ω1 l0.toNat 0).toNat 4) l2 = true then (am_bi (am_run (81, 0) 0 ([some (.inr (.inr (am_get ω1 l0.toNat 0))), some (.inr (.inr (am_get ω1 (am_get ω1 (am_get ω1 l0.toNat 0).toNat 4).toNat l2.toNat))), some (.inl z1)], [], ω1)) (fun z2 ω2 => if am_is ω2 l0 (1, 15) = true then (am_bv (am_run (18, 0) 0 ([some (.inr (.inr l0)), some (.inl (am_get ω1 l1.toNat 4)), some (.inl z1), some (.inl z2), none, none, none, none, none], [], ω2)) (fun ω3 => if am_is ω3 l1 (4, 5) = true then (if am_is ω3 l0 (1, 15) = true then (if am_is ω3 (am_get ω3 l0.toNat 0) (5, 8) = true then (am_bi (am_run (80, 0) 0 ([some (.inr (.inr (am_get ω3 l0.toNat 0))), some (.inr (.inr l1))], [], ω3)) (fun z4 ω4 => am_run (17, 0) 65 ([some (.inr (.inr l0)), some (.inr (.inr l1)), some (.inl l2), some (.inl l3), some (.inl z1), some (.inl (am_get ω3 l1.toNat 4)), some (.inl z4), some (.inl 0), none, none], [], ω4))) else none) else none) else none)) else none)) else none) else none) else none) else none) else (some (some (.inl ((-1))), ω1))) := by
  refine Eq.trans (rr_aload_n rfl rfl) ?_
  refine Eq.trans (rr_aload_n rfl rfl) ?_
  refine Eq.trans (rr_iconst rfl rfl) ?_
  refine Eq.trans (rr_iload_n rfl rfl) ?_
  refine Eq.trans (rr_ishl rfl) ?_
  refine Eq.trans (rr_invV0i (S' := []) (L' := [some (.inr (.inr l0)), some (.inr (.inr l1)), some (.inl (am_shl 1 l2)), none]) (m' := (6, 0)) rfl rfl rfl rfl rfl rfl h1) ?_
  refine bi_cg (fun z1 ω1 => ?_)
  refine Eq.trans (rr_istore (L' := [some (.inr (.inr l0)), some (.inr (.inr l1)), some (.inl l2), some (.inl l3), some (.inl z1), none, none, none, none, none]) rfl rfl) ?_
  refine Eq.trans (rr_iload_n rfl rfl) ?_
  refine Eq.trans (rr_iload rfl rfl) ?_
  refine Eq.trans (rr_icmp_lt rfl rfl) (it_cg (fun _ => ?_) (fun _ => ?_))
  · refine Eq.trans (rr_aload_n rfl rfl) ?_
    refine Eq.trans (rr_aload_n rfl rfl) ?_
    refine ck_it (fun h => rr_getfi rfl rfl rfl h) (fun h => rr_getfield_no rfl rfl h) (fun h2 => ?_)
    refine Eq.trans (rr_iload rfl rfl) ?_
    refine Eq.trans (rr_aload_n rfl rfl) ?_
    refine ck_it (fun h => rr_getfr rfl rfl rfl h) (fun h => rr_getfield_no rfl rfl h) (fun h3 => ?_)
    refine Eq.trans (rr_aload_n rfl rfl) ?_
    refine Eq.trans (rr_getfr rfl rfl rfl h3) ?_
    refine ck_it (fun h => rr_getfr rfl rfl rfl h) (fun h => rr_getfield_no rfl rfl h) (fun h4 => ?_)
    refine Eq.trans (rr_iload_n rfl rfl) ?_
    refine ck_it (fun h => rr_aaload rfl h) (fun h => rr_aaload_no rfl h) (fun h5 => ?_)
    refine Eq.trans (rr_iload rfl rfl) ?_
    refine Eq.trans (rr_invV0i (S' := [.inl z1, .inl (am_get ω1 l1.toNat 4), .inr (.inr l0)]) (L' := [some (.inr (.inr (am_get ω1 l0.toNat 0))), some (.inr (.inr (am_get ω1 (am_get ω1 (am_get ω1 l0.toNat 0).toNat 4).toNat l2.toNat))), some (.inl z1)]) (m' := (81, 0)) rfl rfl rfl rfl rfl rfl h4) ?_
    refine bi_cg (fun z2 ω2 => ?_)
    refine ck_it (fun h => rr_invV0v (S' := []) (L' := [some (.inr (.inr l0)), some (.inl (am_get ω1 l1.toNat 4)), some (.inl z1), some (.inl z2), none, none, none, none, none]) (m' := (18, 0)) rfl rfl rfl rfl rfl rfl h) (fun h => rr_invV0_no (S' := []) (L' := [some (.inr (.inr l0)), some (.inl (am_get ω1 l1.toNat 4)), some (.inl z1), some (.inl z2), none, none, none, none, none]) (m' := (18, 0)) rfl rfl rfl rfl rfl rfl h) (fun h6 => ?_)
    refine bv_cg (fun ω3 => ?_)
    refine Eq.trans (rr_aload_n rfl rfl) ?_
    refine ck_it (fun h => rr_getfi rfl rfl rfl h) (fun h => rr_getfield_no rfl rfl h) (fun h7 => ?_)
    refine Eq.trans (rr_istore (L' := [some (.inr (.inr l0)), some (.inr (.inr l1)), some (.inl l2), some (.inl l3), some (.inl z1), some (.inl (am_get ω3 l1.toNat 4)), none, none, none, none]) rfl rfl) ?_
    refine Eq.trans (rr_aload_n rfl rfl) ?_
    refine ck_it (fun h => rr_getfr rfl rfl rfl h) (fun h => rr_getfield_no rfl rfl h) (fun h8 => ?_)
    refine Eq.trans (rr_aload_n rfl rfl) ?_
    refine ck_it (fun h => rr_invV0i (S' := []) (L' := [some (.inr (.inr (am_get ω3 l0.toNat 0))), some (.inr (.inr l1))]) (m' := (80, 0)) rfl rfl rfl rfl rfl rfl h) (fun h => rr_invV0_no (S' := []) (L' := [some (.inr (.inr (am_get ω3 l0.toNat 0))), some (.inr (.inr l1))]) (m' := (80, 0)) rfl rfl rfl rfl rfl rfl h) (fun h9 => ?_)
    refine bi_cg (fun z4 ω4 => ?_)
    refine Eq.trans (rr_istore (L' := [some (.inr (.inr l0)), some (.inr (.inr l1)), some (.inl l2), some (.inl l3), some (.inl z1), some (.inl (am_get ω3 l1.toNat 4)), some (.inl z4), none, none, none]) rfl rfl) ?_
    refine Eq.trans (rr_iconst rfl rfl) ?_
    refine Eq.trans (rr_istore (L' := [some (.inr (.inr l0)), some (.inr (.inr l1)), some (.inl l2), some (.inl l3), some (.inl z1), some (.inl (am_get ω3 l1.toNat 4)), some (.inl z4), some (.inl 0), none, none]) rfl rfl) ?_
    rfl
  · refine Eq.trans (rr_iconst rfl rfl) ?_
    exact rr_ireturn rfl rfl
theorem pX1_codeOfWay_65 (l0 l1 l2 l3 l4 l5 l6 l7 : Int) (o8 o9 : Option am_V) (ω : am_W) (h1 : am_is ω l0 (1, 15) = true) : am_run (17, 0) 65 ([some (.inr (.inr l0)), some (.inr (.inr l1)), some (.inl l2), some (.inl l3), some (.inl l4), some (.inl l5), some (.inl l6), some (.inl l7), o8, o9], [], ω) = if l4 ≤ l7 then (some (some (.inl 0), ω)) else (if l3 < l5 then (some (some (.inl 0), ω)) else (am_bi (am_run (19, 0) 0 ([some (.inr (.inr l0)), some (.inl l5), some (.inl l6), some (.inl l4), none, none], [], ω)) (fun z1 ω1 => if am_is ω1 l0 (1, 15) = true then (if am_ina ω1 (am_get ω1 l0.toNat 4) z1 = true then (if am_in ω1 (am_get ω1 (am_get ω1 l0.toNat 4).toNat z1.toNat) 100 l6 = true then (if (am_w (l5 + (am_get ω1 (am_get ω1 (am_get ω1 l0.toNat 4).toNat z1.toNat).toNat l6.toNat))) ≤ l3 then (if am_ina ω1 (am_get ω1 l0.toNat 3) z1 = true then (if am_in ω1 (am_get ω1 (am_get ω1 l0.toNat 3).toNat z1.toNat) 100 l6 = true then (am_run (17, 0) 65 ([some (.inr (.inr l0)), some (.inr (.inr l1)), some (.inl l2), some (.inl l3), some (.inl l4), some (.inl (am_w (l5 + (am_get ω1 (am_get ω1 (am_get ω1 l0.toNat 4).toNat z1.toNat).toNat l6.toNat)))), some (.inl (am_get ω1 (am_get ω1 (am_get ω1 l0.toNat 3).toNat z1.toNat).toNat l6.toNat)), some (.inl (am_w (l7 + 1))), some (.inl z1), some (.inl (am_w (l5 + (am_get ω1 (am_get ω1 (am_get ω1 l0.toNat 4).toNat z1.toNat).toNat l6.toNat))))], [], ω1)) else none) else none) else (if ¬ l3 = l5 then (some (some (.inl 0), ω1)) else (some (some (.inl z1), ω1)))) else none) else none) else none))) := by
  refine Eq.trans (rr_iload rfl rfl) ?_
  refine Eq.trans (rr_iload rfl rfl) ?_
  refine Eq.trans (rr_icmp_ge rfl rfl) (it_cg (fun _ => ?_) (fun _ => ?_))
  · refine Eq.trans (rr_iconst rfl rfl) ?_
    exact rr_ireturn rfl rfl
  · refine Eq.trans (rr_iload rfl rfl) ?_
    refine Eq.trans (rr_iload_n rfl rfl) ?_
    refine Eq.trans (rr_icmp_gt rfl rfl) (it_cg (fun _ => ?_) (fun _ => ?_))
    · refine Eq.trans (rr_iconst rfl rfl) ?_
      exact rr_ireturn rfl rfl
    · refine Eq.trans (rr_aload_n rfl rfl) ?_
      refine Eq.trans (rr_iload rfl rfl) ?_
      refine Eq.trans (rr_iload rfl rfl) ?_
      refine Eq.trans (rr_iload rfl rfl) ?_
      refine Eq.trans (rr_invV0i (S' := []) (L' := [some (.inr (.inr l0)), some (.inl l5), some (.inl l6), some (.inl l4), none, none]) (m' := (19, 0)) rfl rfl rfl rfl rfl rfl h1) ?_
      refine bi_cg (fun z1 ω1 => ?_)
      refine Eq.trans (rr_istore (L' := [some (.inr (.inr l0)), some (.inr (.inr l1)), some (.inl l2), some (.inl l3), some (.inl l4), some (.inl l5), some (.inl l6), some (.inl l7), some (.inl z1), o9]) rfl rfl) ?_
      refine Eq.trans (rr_iload rfl rfl) ?_
      refine Eq.trans (rr_aload_n rfl rfl) ?_
      refine ck_it (fun h => rr_getfr rfl rfl rfl h) (fun h => rr_getfield_no rfl rfl h) (fun h2 => ?_)
      refine Eq.trans (rr_iload rfl rfl) ?_
      refine ck_it (fun h => rr_aaload rfl h) (fun h => rr_aaload_no rfl h) (fun h3 => ?_)
      refine Eq.trans (rr_iload rfl rfl) ?_
      refine ck_it (fun h => rr_iaload rfl rfl h) (fun h => rr_iaload_no rfl rfl h) (fun h4 => ?_)
      refine Eq.trans (rr_iadd rfl) ?_
      refine Eq.trans (rr_istore (L' := [some (.inr (.inr l0)), some (.inr (.inr l1)), some (.inl l2), some (.inl l3), some (.inl l4), some (.inl l5), some (.inl l6), some (.inl l7), some (.inl z1), some (.inl (am_w (l5 + (am_get ω1 (am_get ω1 (am_get ω1 l0.toNat 4).toNat z1.toNat).toNat l6.toNat))))]) rfl rfl) ?_
      refine Eq.trans (rr_iload_n rfl rfl) ?_
      refine Eq.trans (rr_iload rfl rfl) ?_
      refine Eq.trans (rr_icmp_ge rfl rfl) (it_cg (fun _ => ?_) (fun _ => ?_))
      · refine Eq.trans (rr_aload_n rfl rfl) ?_
        refine Eq.trans (rr_getfr rfl rfl rfl h2) ?_
        refine Eq.trans (rr_iload rfl rfl) ?_
        refine ck_it (fun h => rr_aaload rfl h) (fun h => rr_aaload_no rfl h) (fun h5 => ?_)
        refine Eq.trans (rr_iload rfl rfl) ?_
        refine ck_it (fun h => rr_iaload rfl rfl h) (fun h => rr_iaload_no rfl rfl h) (fun h6 => ?_)
        refine Eq.trans (rr_istore (L' := [some (.inr (.inr l0)), some (.inr (.inr l1)), some (.inl l2), some (.inl l3), some (.inl l4), some (.inl l5), some (.inl (am_get ω1 (am_get ω1 (am_get ω1 l0.toNat 3).toNat z1.toNat).toNat l6.toNat)), some (.inl l7), some (.inl z1), some (.inl (am_w (l5 + (am_get ω1 (am_get ω1 (am_get ω1 l0.toNat 4).toNat z1.toNat).toNat l6.toNat))))]) rfl rfl) ?_
        refine Eq.trans (rr_iload rfl rfl) ?_
        refine Eq.trans (rr_istore (L' := [some (.inr (.inr l0)), some (.inr (.inr l1)), some (.inl l2), some (.inl l3), some (.inl l4), some (.inl (am_w (l5 + (am_get ω1 (am_get ω1 (am_get ω1 l0.toNat 4).toNat z1.toNat).toNat l6.toNat)))), some (.inl (am_get ω1 (am_get ω1 (am_get ω1 l0.toNat 3).toNat z1.toNat).toNat l6.toNat)), some (.inl l7), some (.inl z1), some (.inl (am_w (l5 + (am_get ω1 (am_get ω1 (am_get ω1 l0.toNat 4).toNat z1.toNat).toNat l6.toNat))))]) rfl rfl) ?_
        refine Eq.trans (rr_iinc (L' := [some (.inr (.inr l0)), some (.inr (.inr l1)), some (.inl l2), some (.inl l3), some (.inl l4), some (.inl (am_w (l5 + (am_get ω1 (am_get ω1 (am_get ω1 l0.toNat 4).toNat z1.toNat).toNat l6.toNat)))), some (.inl (am_get ω1 (am_get ω1 (am_get ω1 l0.toNat 3).toNat z1.toNat).toNat l6.toNat)), some (.inl (am_w (l7 + 1))), some (.inl z1), some (.inl (am_w (l5 + (am_get ω1 (am_get ω1 (am_get ω1 l0.toNat 4).toNat z1.toNat).toNat l6.toNat))))]) rfl rfl rfl) ?_
        refine Eq.trans (rr_goto rfl rfl) ?_
        rfl
      · refine Eq.trans (rr_iload_n rfl rfl) ?_
        refine Eq.trans (rr_iload rfl rfl) ?_
        refine Eq.trans (rr_icmp_ne rfl rfl) (it_cg (fun _ => ?_) (fun _ => ?_))
        · refine Eq.trans (rr_iconst rfl rfl) ?_
          exact rr_ireturn rfl rfl
        · refine Eq.trans (rr_iload rfl rfl) ?_
          refine Eq.trans (rr_goto rfl rfl) ?_
          exact rr_ireturn rfl rfl
theorem pX1_setToGo_0 (l0 l1 l2 l3 : Int) (ω : am_W) : am_run (18, 0) 0 ([some (.inr (.inr l0)), some (.inl l1), some (.inl l2), some (.inl l3), none, none, none, none, none], [], ω) = am_run (18, 0) 3 ([some (.inr (.inr l0)), some (.inl l1), some (.inl l2), some (.inl l3), some (.inl 0), none, none, none, none], [], ω) := by
  refine Eq.trans (rr_iconst rfl rfl) ?_
  refine Eq.trans (rr_istore (L' := [some (.inr (.inr l0)), some (.inl l1), some (.inl l2), some (.inl l3), some (.inl 0), none, none, none, none]) rfl rfl) ?_
  rfl
theorem pX1_setToGo_3 (l0 l1 l2 l3 l4 : Int) (o5 o6 o7 o8 : Option am_V) (ω : am_W) (h1 : am_is ω l0 (1, 15) = true) : am_run (18, 0) 3 ([some (.inr (.inr l0)), some (.inl l1), some (.inl l2), some (.inl l3), some (.inl l4), o5, o6, o7, o8], [], ω) = if 120 ≤ l4 then (am_run (18, 0) 45 ([some (.inr (.inr l0)), some (.inl l1), some (.inl l2), some (.inl l3), some (.inl (am_w (l2 - 1))), o5, o6, o7, o8], [], ω)) else (if ¬ l4 = l3 then (if am_in ω (am_get ω l0.toNat 7) 100 (am_w ((am_w (l2 * 120)) + l4)) = true then (am_run (18, 0) 3 ([some (.inr (.inr l0)), some (.inl l1), some (.inl l2), some (.inl l3), some (.inl (am_w (l4 + 1))), o5, o6, o7, o8], [], am_put ω (am_get ω l0.toNat 7).toNat (am_w ((am_w (l2 * 120)) + l4)).toNat 1000000)) else none) else (if am_in ω (am_get ω l0.toNat 7) 100 (am_w ((am_w (l2 * 120)) + l4)) = true then (am_run (18, 0) 3 ([some (.inr (.inr l0)), some (.inl l1), some (.inl l2), some (.inl l3), some (.inl (am_w (l4 + 1))), o5, o6, o7, o8], [], am_put ω (am_get ω l0.toNat 7).toNat (am_w ((am_w (l2 * 120)) + l4)).toNat 0)) else none)) := by
  refine Eq.trans (rr_iload rfl rfl) ?_
  refine Eq.trans (rr_bipush rfl rfl) ?_
  refine Eq.trans (rr_icmp_ge rfl rfl) (it_cg (fun _ => ?_) (fun _ => ?_))
  · refine Eq.trans (rr_iload_n rfl rfl) ?_
    refine Eq.trans (rr_iconst rfl rfl) ?_
    refine Eq.trans (rr_isub rfl) ?_
    refine Eq.trans (rr_istore (L' := [some (.inr (.inr l0)), some (.inl l1), some (.inl l2), some (.inl l3), some (.inl (am_w (l2 - 1))), o5, o6, o7, o8]) rfl rfl) ?_
    rfl
  · refine Eq.trans (rr_aload_n rfl rfl) ?_
    refine Eq.trans (rr_getfr rfl rfl rfl h1) ?_
    refine Eq.trans (rr_iload_n rfl rfl) ?_
    refine Eq.trans (rr_bipush rfl rfl) ?_
    refine Eq.trans (rr_imul rfl) ?_
    refine Eq.trans (rr_iload rfl rfl) ?_
    refine Eq.trans (rr_iadd rfl) ?_
    refine Eq.trans (rr_iload rfl rfl) ?_
    refine Eq.trans (rr_iload_n rfl rfl) ?_
    refine Eq.trans (rr_icmp_ne rfl rfl) (it_cg (fun _ => ?_) (fun _ => ?_))
    · refine Eq.trans (rr_ldc rfl rfl) ?_
      refine ck_it (fun h => rr_iastore rfl h) (fun h => rr_iastore_no rfl h) (fun h2 => ?_)
      refine Eq.trans (rr_iinc (L' := [some (.inr (.inr l0)), some (.inl l1), some (.inl l2), some (.inl l3), some (.inl (am_w (l4 + 1))), o5, o6, o7, o8]) rfl rfl rfl) ?_
      refine Eq.trans (rr_goto rfl rfl) ?_
      rfl
    · refine Eq.trans (rr_iconst rfl rfl) ?_
      refine Eq.trans (rr_goto rfl rfl) ?_
      refine ck_it (fun h => rr_iastore rfl h) (fun h => rr_iastore_no rfl h) (fun h3 => ?_)
      refine Eq.trans (rr_iinc (L' := [some (.inr (.inr l0)), some (.inl l1), some (.inl l2), some (.inl l3), some (.inl (am_w (l4 + 1))), o5, o6, o7, o8]) rfl rfl rfl) ?_
      refine Eq.trans (rr_goto rfl rfl) ?_
      rfl
theorem pX1_setToGo_45 (l0 l1 l2 l3 l4 : Int) (o5 o6 o7 o8 : Option am_V) (ω : am_W) : am_run (18, 0) 45 ([some (.inr (.inr l0)), some (.inl l1), some (.inl l2), some (.inl l3), some (.inl l4), o5, o6, o7, o8], [], ω) = if l4 < l1 then (some (none, ω)) else (am_run (18, 0) 54 ([some (.inr (.inr l0)), some (.inl l1), some (.inl l2), some (.inl l3), some (.inl l4), some (.inl 0), o6, o7, o8], [], ω)) := by
  refine Eq.trans (rr_iload rfl rfl) ?_
  refine Eq.trans (rr_iload_n rfl rfl) ?_
  refine Eq.trans (rr_icmp_lt rfl rfl) (it_cg (fun _ => ?_) (fun _ => ?_))
  · exact rr_return rfl rfl
  · refine Eq.trans (rr_iconst rfl rfl) ?_
    refine Eq.trans (rr_istore (L' := [some (.inr (.inr l0)), some (.inl l1), some (.inl l2), some (.inl l3), some (.inl l4), some (.inl 0), o6, o7, o8]) rfl rfl) ?_
    rfl
theorem pX1_setToGo_54 (l0 l1 l2 l3 l4 l5 : Int) (o6 o7 o8 : Option am_V) (ω : am_W) (h1 : am_is ω l0 (1, 15) = true) : am_run (18, 0) 54 ([some (.inr (.inr l0)), some (.inl l1), some (.inl l2), some (.inl l3), some (.inl l4), some (.inl l5), o6, o7, o8], [], ω) = if (am_get ω l0.toNat 2) ≤ l5 then (am_run (18, 0) 45 ([some (.inr (.inr l0)), some (.inl l1), some (.inl l2), some (.inl l3), some (.inl (am_w (l4 + (-1)))), some (.inl l5), o6, o7, o8], [], ω)) else (if am_in ω (am_get ω l0.toNat 1) 100 l5 = true then (am_run (18, 0) 79 ([some (.inr (.inr l0)), some (.inl l1), some (.inl l2), some (.inl l3), some (.inl l4), some (.inl l5), some (.inl (am_get ω (am_get ω l0.toNat 1).toNat l5.toNat)), some (.inl 1000000), some (.inl 0)], [], ω)) else none) := by
  refine Eq.trans (rr_iload rfl rfl) ?_
  refine Eq.trans (rr_aload_n rfl rfl) ?_
  refine Eq.trans (rr_getfi rfl rfl rfl h1) ?_
  refine Eq.trans (rr_icmp_ge rfl rfl) (it_cg (fun _ => ?_) (fun _ => ?_))
  · refine Eq.trans (rr_iinc (L' := [some (.inr (.inr l0)), some (.inl l1), some (.inl l2), some (.inl l3), some (.inl (am_w (l4 + (-1)))), some (.inl l5), o6, o7, o8]) rfl rfl rfl) ?_
    refine Eq.trans (rr_goto rfl rfl) ?_
    rfl
  · refine Eq.trans (rr_aload_n rfl rfl) ?_
    refine Eq.trans (rr_getfr rfl rfl rfl h1) ?_
    refine Eq.trans (rr_iload rfl rfl) ?_
    refine ck_it (fun h => rr_iaload rfl rfl h) (fun h => rr_iaload_no rfl rfl h) (fun h2 => ?_)
    refine Eq.trans (rr_istore (L' := [some (.inr (.inr l0)), some (.inl l1), some (.inl l2), some (.inl l3), some (.inl l4), some (.inl l5), some (.inl (am_get ω (am_get ω l0.toNat 1).toNat l5.toNat)), o7, o8]) rfl rfl) ?_
    refine Eq.trans (rr_ldc rfl rfl) ?_
    refine Eq.trans (rr_istore (L' := [some (.inr (.inr l0)), some (.inl l1), some (.inl l2), some (.inl l3), some (.inl l4), some (.inl l5), some (.inl (am_get ω (am_get ω l0.toNat 1).toNat l5.toNat)), some (.inl 1000000), o8]) rfl rfl) ?_
    refine Eq.trans (rr_iconst rfl rfl) ?_
    refine Eq.trans (rr_istore (L' := [some (.inr (.inr l0)), some (.inl l1), some (.inl l2), some (.inl l3), some (.inl l4), some (.inl l5), some (.inl (am_get ω (am_get ω l0.toNat 1).toNat l5.toNat)), some (.inl 1000000), some (.inl 0)]) rfl rfl) ?_
    rfl
theorem pX1_setToGo_79 (l0 l1 l2 l3 l4 l5 l6 l7 l8 : Int) (ω : am_W) (h1 : am_is ω l0 (1, 15) = true) : am_run (18, 0) 79 ([some (.inr (.inr l0)), some (.inl l1), some (.inl l2), some (.inl l3), some (.inl l4), some (.inl l5), some (.inl l6), some (.inl l7), some (.inl l8)], [], ω) = if 3 ≤ l8 then (if am_in ω (am_get ω l0.toNat 7) 100 (am_w ((am_w (l4 * 120)) + l6)) = true then (am_run (18, 0) 54 ([some (.inr (.inr l0)), some (.inl l1), some (.inl l2), some (.inl l3), some (.inl l4), some (.inl (am_w (l5 + 1))), some (.inl l6), some (.inl l7), some (.inl l8)], [], am_put ω (am_get ω l0.toNat 7).toNat (am_w ((am_w (l4 * 120)) + l6)).toNat l7)) else none) else (am_bi (am_run (20, 0) 0 ([some (.inr (.inr l0)), some (.inl l8), some (.inl l4), some (.inl l6), some (.inl l2), none, none], [], ω)) (fun z1 ω1 => am_bi (am_run (237, 0) 0 ([some (.inl l7), some (.inl z1)], [], ω1)) (fun z2 ω2 => am_run (18, 0) 79 ([some (.inr (.inr l0)), some (.inl l1), some (.inl l2), some (.inl l3), some (.inl l4), some (.inl l5), some (.inl l6), some (.inl z2), some (.inl (am_w (l8 + 1)))], [], ω2)))) := by
  refine Eq.trans (rr_iload rfl rfl) ?_
  refine Eq.trans (rr_iconst rfl rfl) ?_
  refine Eq.trans (rr_icmp_ge rfl rfl) (it_cg (fun _ => ?_) (fun _ => ?_))
  · refine Eq.trans (rr_aload_n rfl rfl) ?_
    refine Eq.trans (rr_getfr rfl rfl rfl h1) ?_
    refine Eq.trans (rr_iload rfl rfl) ?_
    refine Eq.trans (rr_bipush rfl rfl) ?_
    refine Eq.trans (rr_imul rfl) ?_
    refine Eq.trans (rr_iload rfl rfl) ?_
    refine Eq.trans (rr_iadd rfl) ?_
    refine Eq.trans (rr_iload rfl rfl) ?_
    refine ck_it (fun h => rr_iastore rfl h) (fun h => rr_iastore_no rfl h) (fun h2 => ?_)
    refine Eq.trans (rr_iinc (L' := [some (.inr (.inr l0)), some (.inl l1), some (.inl l2), some (.inl l3), some (.inl l4), some (.inl (am_w (l5 + 1))), some (.inl l6), some (.inl l7), some (.inl l8)]) rfl rfl rfl) ?_
    refine Eq.trans (rr_goto rfl rfl) ?_
    rfl
  · refine Eq.trans (rr_iload rfl rfl) ?_
    refine Eq.trans (rr_aload_n rfl rfl) ?_
    refine Eq.trans (rr_iload rfl rfl) ?_
    refine Eq.trans (rr_iload rfl rfl) ?_
    refine Eq.trans (rr_iload rfl rfl) ?_
    refine Eq.trans (rr_iload_n rfl rfl) ?_
    refine Eq.trans (rr_invV0i (S' := [.inl l7]) (L' := [some (.inr (.inr l0)), some (.inl l8), some (.inl l4), some (.inl l6), some (.inl l2), none, none]) (m' := (20, 0)) rfl rfl rfl rfl rfl rfl h1) ?_
    refine bi_cg (fun z1 ω1 => ?_)
    refine Eq.trans (rr_invS2i (S' := []) (L' := [some (.inl l7), some (.inl z1)]) (m' := (237, 0)) rfl rfl rfl rfl rfl rfl) ?_
    refine bi_cg (fun z2 ω2 => ?_)
    refine Eq.trans (rr_istore (L' := [some (.inr (.inr l0)), some (.inl l1), some (.inl l2), some (.inl l3), some (.inl l4), some (.inl l5), some (.inl l6), some (.inl z2), some (.inl l8)]) rfl rfl) ?_
    refine Eq.trans (rr_iinc (L' := [some (.inr (.inr l0)), some (.inl l1), some (.inl l2), some (.inl l3), some (.inl l4), some (.inl l5), some (.inl l6), some (.inl z2), some (.inl (am_w (l8 + 1)))]) rfl rfl rfl) ?_
    refine Eq.trans (rr_goto rfl rfl) ?_
    rfl
theorem pX1_firstBestCode_0 (l0 l1 l2 l3 : Int) (ω : am_W) (h1 : am_is ω l0 (1, 15) = true) : am_run (19, 0) 0 ([some (.inr (.inr l0)), some (.inl l1), some (.inl l2), some (.inl l3), none, none], [], ω) = if am_in ω (am_get ω l0.toNat 7) 100 (am_w ((am_w (l1 * 120)) + l2)) = true then (am_run (19, 0) 16 ([some (.inr (.inr l0)), some (.inl l1), some (.inl l2), some (.inl l3), some (.inl (am_get ω (am_get ω l0.toNat 7).toNat (am_w ((am_w (l1 * 120)) + l2)).toNat)), some (.inl 0)], [], ω)) else none := by
  refine Eq.trans (rr_aload_n rfl rfl) ?_
  refine Eq.trans (rr_getfr rfl rfl rfl h1) ?_
  refine Eq.trans (rr_iload_n rfl rfl) ?_
  refine Eq.trans (rr_bipush rfl rfl) ?_
  refine Eq.trans (rr_imul rfl) ?_
  refine Eq.trans (rr_iload_n rfl rfl) ?_
  refine Eq.trans (rr_iadd rfl) ?_
  refine ck_it (fun h => rr_iaload rfl rfl h) (fun h => rr_iaload_no rfl rfl h) (fun h2 => ?_)
  refine Eq.trans (rr_istore (L' := [some (.inr (.inr l0)), some (.inl l1), some (.inl l2), some (.inl l3), some (.inl (am_get ω (am_get ω l0.toNat 7).toNat (am_w ((am_w (l1 * 120)) + l2)).toNat)), none]) rfl rfl) ?_
  refine Eq.trans (rr_iconst rfl rfl) ?_
  refine Eq.trans (rr_istore (L' := [some (.inr (.inr l0)), some (.inl l1), some (.inl l2), some (.inl l3), some (.inl (am_get ω (am_get ω l0.toNat 7).toNat (am_w ((am_w (l1 * 120)) + l2)).toNat)), some (.inl 0)]) rfl rfl) ?_
  rfl
theorem pX1_firstBestCode_16 (l0 l1 l2 l3 l4 l5 : Int) (ω : am_W) (h1 : am_is ω l0 (1, 15) = true) : am_run (19, 0) 16 ([some (.inr (.inr l0)), some (.inl l1), some (.inl l2), some (.inl l3), some (.inl l4), some (.inl l5)], [], ω) = if 3 ≤ l5 then (some (some (.inl 0), ω)) else (am_bi (am_run (20, 0) 0 ([some (.inr (.inr l0)), some (.inl l5), some (.inl l1), some (.inl l2), some (.inl l3), none, none], [], ω)) (fun z1 ω1 => if ¬ z1 = l4 then (am_run (19, 0) 16 ([some (.inr (.inr l0)), some (.inl l1), some (.inl l2), some (.inl l3), some (.inl l4), some (.inl (am_w (l5 + 1)))], [], ω1)) else (if am_is ω1 l0 (1, 15) = true then (if am_ina ω1 (am_get ω1 l0.toNat 3) l5 = true then (if am_in ω1 (am_get ω1 (am_get ω1 l0.toNat 3).toNat l5.toNat) 100 l2 = true then (if (am_get ω1 (am_get ω1 (am_get ω1 l0.toNat 3).toNat l5.toNat).toNat l2.toNat) = ((-1)) then (am_run (19, 0) 16 ([some (.inr (.inr l0)), some (.inl l1), some (.inl l2), some (.inl l3), some (.inl l4), some (.inl (am_w (l5 + 1)))], [], ω1)) else (some (some (.inl l5), ω1))) else none) else none) else none))) := by
  refine Eq.trans (rr_iload rfl rfl) ?_
  refine Eq.trans (rr_iconst rfl rfl) ?_
  refine Eq.trans (rr_icmp_ge rfl rfl) (it_cg (fun _ => ?_) (fun _ => ?_))
  · refine Eq.trans (rr_iconst rfl rfl) ?_
    exact rr_ireturn rfl rfl
  · refine Eq.trans (rr_aload_n rfl rfl) ?_
    refine Eq.trans (rr_iload rfl rfl) ?_
    refine Eq.trans (rr_iload_n rfl rfl) ?_
    refine Eq.trans (rr_iload_n rfl rfl) ?_
    refine Eq.trans (rr_iload_n rfl rfl) ?_
    refine Eq.trans (rr_invV0i (S' := []) (L' := [some (.inr (.inr l0)), some (.inl l5), some (.inl l1), some (.inl l2), some (.inl l3), none, none]) (m' := (20, 0)) rfl rfl rfl rfl rfl rfl h1) ?_
    refine bi_cg (fun z1 ω1 => ?_)
    refine Eq.trans (rr_iload rfl rfl) ?_
    refine Eq.trans (rr_icmp_ne rfl rfl) (it_cg (fun _ => ?_) (fun _ => ?_))
    · refine Eq.trans (rr_iinc (L' := [some (.inr (.inr l0)), some (.inl l1), some (.inl l2), some (.inl l3), some (.inl l4), some (.inl (am_w (l5 + 1)))]) rfl rfl rfl) ?_
      refine Eq.trans (rr_goto rfl rfl) ?_
      rfl
    · refine Eq.trans (rr_aload_n rfl rfl) ?_
      refine ck_it (fun h => rr_getfr rfl rfl rfl h) (fun h => rr_getfield_no rfl rfl h) (fun h2 => ?_)
      refine Eq.trans (rr_iload rfl rfl) ?_
      refine ck_it (fun h => rr_aaload rfl h) (fun h => rr_aaload_no rfl h) (fun h3 => ?_)
      refine Eq.trans (rr_iload_n rfl rfl) ?_
      refine ck_it (fun h => rr_iaload rfl rfl h) (fun h => rr_iaload_no rfl rfl h) (fun h4 => ?_)
      refine Eq.trans (rr_iconst rfl rfl) ?_
      refine Eq.trans (rr_icmp_eq rfl rfl) (it_cg (fun _ => ?_) (fun _ => ?_))
      · refine Eq.trans (rr_iinc (L' := [some (.inr (.inr l0)), some (.inl l1), some (.inl l2), some (.inl l3), some (.inl l4), some (.inl (am_w (l5 + 1)))]) rfl rfl rfl) ?_
        refine Eq.trans (rr_goto rfl rfl) ?_
        rfl
      · refine Eq.trans (rr_iload rfl rfl) ?_
        exact rr_ireturn rfl rfl
theorem pX1_dropsBy_0 (l0 l1 l2 l3 l4 : Int) (ω : am_W) (h1 : am_is ω l0 (1, 15) = true) : am_run (20, 0) 0 ([some (.inr (.inr l0)), some (.inl l1), some (.inl l2), some (.inl l3), some (.inl l4), none, none], [], ω) = if am_ina ω (am_get ω l0.toNat 3) l1 = true then (if am_in ω (am_get ω (am_get ω l0.toNat 3).toNat l1.toNat) 100 l3 = true then (if am_ina ω (am_get ω l0.toNat 4) l1 = true then (if am_in ω (am_get ω (am_get ω l0.toNat 4).toNat l1.toNat) 100 l3 = true then (if (am_get ω (am_get ω (am_get ω l0.toNat 3).toNat l1.toNat).toNat l3.toNat) = ((-1)) then (some (some (.inl 1000000), ω)) else (if (am_w (l2 + (am_get ω (am_get ω (am_get ω l0.toNat 4).toNat l1.toNat).toNat l3.toNat))) ≤ l4 then (if am_ina ω (am_get ω l0.toNat 5) l1 = true then (if am_in ω (am_get ω (am_get ω l0.toNat 5).toNat l1.toNat) 100 l3 = true then (if am_in ω (am_get ω l0.toNat 7) 100 (am_w ((am_w ((am_w (l2 + (am_get ω (am_get ω (am_get ω l0.toNat 4).toNat l1.toNat).toNat l3.toNat))) * 120)) + (am_get ω (am_get ω (am_get ω l0.toNat 3).toNat l1.toNat).toNat l3.toNat))) = true then (am_bi (am_run (237, 0) 0 ([some (.inl 1000000), some (.inl (am_w ((am_get ω (am_get ω (am_get ω l0.toNat 5).toNat l1.toNat).toNat l3.toNat) + (am_get ω (am_get ω l0.toNat 7).toNat (am_w ((am_w ((am_w (l2 + (am_get ω (am_get ω (am_get ω l0.toNat 4).toNat l1.toNat).toNat l3.toNat))) * 120)) + (am_get ω (am_get ω (am_get ω l0.toNat 3).toNat l1.toNat).toNat l3.toNat))).toNat))))], [], ω)) (fun z1 ω1 => some (some (.inl z1), ω1))) else none) else none) else none) else (some (some (.inl 1000000), ω)))) else none) else none) else none) else none := by
  refine Eq.trans (rr_aload_n rfl rfl) ?_
  refine Eq.trans (rr_getfr rfl rfl rfl h1) ?_
  refine Eq.trans (rr_iload_n rfl rfl) ?_
  refine ck_it (fun h => rr_aaload rfl h) (fun h => rr_aaload_no rfl h) (fun h2 => ?_)
  refine Eq.trans (rr_iload_n rfl rfl) ?_
  refine ck_it (fun h => rr_iaload rfl rfl h) (fun h => rr_iaload_no rfl rfl h) (fun h3 => ?_)
  refine Eq.trans (rr_istore (L' := [some (.inr (.inr l0)), some (.inl l1), some (.inl l2), some (.inl l3), some (.inl l4), some (.inl (am_get ω (am_get ω (am_get ω l0.toNat 3).toNat l1.toNat).toNat l3.toNat)), none]) rfl rfl) ?_
  refine Eq.trans (rr_iload_n rfl rfl) ?_
  refine Eq.trans (rr_aload_n rfl rfl) ?_
  refine Eq.trans (rr_getfr rfl rfl rfl h1) ?_
  refine Eq.trans (rr_iload_n rfl rfl) ?_
  refine ck_it (fun h => rr_aaload rfl h) (fun h => rr_aaload_no rfl h) (fun h4 => ?_)
  refine Eq.trans (rr_iload_n rfl rfl) ?_
  refine ck_it (fun h => rr_iaload rfl rfl h) (fun h => rr_iaload_no rfl rfl h) (fun h5 => ?_)
  refine Eq.trans (rr_iadd rfl) ?_
  refine Eq.trans (rr_istore (L' := [some (.inr (.inr l0)), some (.inl l1), some (.inl l2), some (.inl l3), some (.inl l4), some (.inl (am_get ω (am_get ω (am_get ω l0.toNat 3).toNat l1.toNat).toNat l3.toNat)), some (.inl (am_w (l2 + (am_get ω (am_get ω (am_get ω l0.toNat 4).toNat l1.toNat).toNat l3.toNat))))]) rfl rfl) ?_
  refine Eq.trans (rr_iload rfl rfl) ?_
  refine Eq.trans (rr_iconst rfl rfl) ?_
  refine Eq.trans (rr_icmp_eq rfl rfl) (it_cg (fun _ => ?_) (fun _ => ?_))
  · refine Eq.trans (rr_ldc rfl rfl) ?_
    exact rr_ireturn rfl rfl
  · refine Eq.trans (rr_iload rfl rfl) ?_
    refine Eq.trans (rr_iload rfl rfl) ?_
    refine Eq.trans (rr_icmp_le rfl rfl) (it_cg (fun _ => ?_) (fun _ => ?_))
    · refine Eq.trans (rr_ldc rfl rfl) ?_
      refine Eq.trans (rr_aload_n rfl rfl) ?_
      refine Eq.trans (rr_getfr rfl rfl rfl h1) ?_
      refine Eq.trans (rr_iload_n rfl rfl) ?_
      refine ck_it (fun h => rr_aaload rfl h) (fun h => rr_aaload_no rfl h) (fun h6 => ?_)
      refine Eq.trans (rr_iload_n rfl rfl) ?_
      refine ck_it (fun h => rr_iaload rfl rfl h) (fun h => rr_iaload_no rfl rfl h) (fun h7 => ?_)
      refine Eq.trans (rr_aload_n rfl rfl) ?_
      refine Eq.trans (rr_getfr rfl rfl rfl h1) ?_
      refine Eq.trans (rr_iload rfl rfl) ?_
      refine Eq.trans (rr_bipush rfl rfl) ?_
      refine Eq.trans (rr_imul rfl) ?_
      refine Eq.trans (rr_iload rfl rfl) ?_
      refine Eq.trans (rr_iadd rfl) ?_
      refine ck_it (fun h => rr_iaload rfl rfl h) (fun h => rr_iaload_no rfl rfl h) (fun h8 => ?_)
      refine Eq.trans (rr_iadd rfl) ?_
      refine Eq.trans (rr_invS2i (S' := []) (L' := [some (.inl 1000000), some (.inl (am_w ((am_get ω (am_get ω (am_get ω l0.toNat 5).toNat l1.toNat).toNat l3.toNat) + (am_get ω (am_get ω l0.toNat 7).toNat (am_w ((am_w ((am_w (l2 + (am_get ω (am_get ω (am_get ω l0.toNat 4).toNat l1.toNat).toNat l3.toNat))) * 120)) + (am_get ω (am_get ω (am_get ω l0.toNat 3).toNat l1.toNat).toNat l3.toNat))).toNat))))]) (m' := (237, 0)) rfl rfl rfl rfl rfl rfl) ?_
      refine bi_cg (fun z1 ω1 => ?_)
      exact rr_ireturn rfl rfl
    · refine Eq.trans (rr_ldc rfl rfl) ?_
      exact rr_ireturn rfl rfl
theorem pX1_slotOf_0 (l0 : Int) (ω : am_W) : am_run (21, 0) 0 ([some (.inl l0)], [], ω) = if 11 = 0 then none else (some (some (.inl (am_w ((l0.tmod 11) * 120))), ω)) := by
  refine Eq.trans (rr_iload_n rfl rfl) ?_
  refine Eq.trans (rr_bipush rfl rfl) ?_
  refine Eq.trans (rr_irem rfl) (it_cg (fun _ => rfl) (fun _ => ?_))
  refine Eq.trans (rr_bipush rfl rfl) ?_
  refine Eq.trans (rr_imul rfl) ?_
  exact rr_ireturn rfl rfl
