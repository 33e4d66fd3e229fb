theorem pX6_init_0 (l0 : Int) (ω : am_W) (h1 : 0 ≤ l0) : am_run (83, 0) 0 ([some (.inr (.inr l0)), none], [], ω) = if am_is (am_new ω (5, 8) (am_d0 5)) (((ω).1.length : Int)) (5, 8) = true then (am_bv (am_run (52, 0) 0 ([some (.inr (.inr (((ω).1.length : Int)))), none], [], am_new ω (5, 8) (am_d0 5))) (fun ω2 => if am_is ω2 l0 (6, 10) = true then (am_run (83, 0) 15 ([some (.inr (.inr l0)), none], [], am_put ω2 l0.toNat 0 (((ω).1.length : Int)))) else none)) else none := by
  refine Eq.trans (rr_aload_n rfl rfl) ?_
  refine Eq.trans (rr_objInit rfl rfl rfl (decide_eq_true h1) rfl) ?_
  refine Eq.trans (rr_aload_n rfl rfl) ?_
  refine Eq.trans (rr_new rfl rfl rfl) ?_
  refine Eq.trans (rr_dupr rfl) ?_
  refine ck_it (fun h => rr_invI4v (S' := [.inr (.inr (((ω).1.length : Int))), .inr (.inr l0)]) (L' := [some (.inr (.inr (((ω).1.length : Int)))), none]) (m' := (52, 0)) rfl rfl rfl rfl rfl rfl h) (fun h => rr_invI4_no (S' := [.inr (.inr (((ω).1.length : Int))), .inr (.inr l0)]) (L' := [some (.inr (.inr (((ω).1.length : Int)))), none]) (m' := (52, 0)) rfl rfl rfl rfl rfl rfl h) (fun h2 => ?_)
  refine bv_cg (fun ω2 => ?_)
  refine ck_it (fun h => rr_putfieldr rfl rfl (by rw [Bool.and_eq_true, Bool.and_eq_true]; exact ⟨rfl, rfl, decide_eq_true (by omega)⟩) h) (fun h => rr_putfieldr_no rfl rfl h) (fun h3 => ?_)
  rfl
theorem pX6_init_15 (l0 : Int) (o1 : Option am_V) (ω : am_W) : am_run (83, 0) 15 ([some (.inr (.inr l0)), o1], [], ω) = if am_is (am_new ω (5, 8) (am_d0 5)) (((ω).1.length : Int)) (5, 8) = true then (am_bv (am_run (52, 0) 0 ([some (.inr (.inr (((ω).1.length : Int)))), none], [], am_new ω (5, 8) (am_d0 5))) (fun ω2 => if am_is ω2 l0 (6, 10) = true then (am_run (83, 0) 26 ([some (.inr (.inr l0)), o1], [], am_put ω2 l0.toNat 1 (((ω).1.length : Int)))) else none)) else none := by
  refine Eq.trans (rr_aload_n rfl rfl) ?_
  refine Eq.trans (rr_new rfl rfl rfl) ?_
  refine Eq.trans (rr_dupr rfl) ?_
  refine ck_it (fun h => rr_invI4v (S' := [.inr (.inr (((ω).1.length : Int))), .inr (.inr l0)]) (L' := [some (.inr (.inr (((ω).1.length : Int)))), none]) (m' := (52, 0)) rfl rfl rfl rfl rfl rfl h) (fun h => rr_invI4_no (S' := [.inr (.inr (((ω).1.length : Int))), .inr (.inr l0)]) (L' := [some (.inr (.inr (((ω).1.length : Int)))), none]) (m' := (52, 0)) rfl rfl rfl rfl rfl rfl h) (fun h1 => ?_)
  refine bv_cg (fun ω2 => ?_)
  refine ck_it (fun h => rr_putfieldr rfl rfl (by rw [Bool.and_eq_true, Bool.and_eq_true]; exact ⟨rfl, rfl, decide_eq_true (by omega)⟩) h) (fun h => rr_putfieldr_no rfl rfl h) (fun h2 => ?_)
  rfl
theorem pX6_init_26 (l0 : Int) (o1 : Option am_V) (ω : am_W) : am_run (83, 0) 26 ([some (.inr (.inr l0)), o1], [], ω) = if am_is (am_new ω (3, 7) (am_d0 3)) (((ω).1.length : Int)) (3, 7) = true then (am_bv (am_run (33, 0) 0 ([some (.inr (.inr (((ω).1.length : Int))))], [], am_new ω (3, 7) (am_d0 3))) (fun ω2 => if am_is ω2 l0 (6, 10) = true then (am_run (83, 0) 37 ([some (.inr (.inr l0)), o1], [], am_put ω2 l0.toNat 3 (((ω).1.length : Int)))) else none)) else none := by
  refine Eq.trans (rr_aload_n rfl rfl) ?_
  refine Eq.trans (rr_new rfl rfl rfl) ?_
  refine Eq.trans (rr_dupr rfl) ?_
  refine ck_it (fun h => rr_invI5v (S' := [.inr (.inr (((ω).1.length : Int))), .inr (.inr l0)]) (L' := [some (.inr (.inr (((ω).1.length : Int))))]) (m' := (33, 0)) rfl rfl rfl rfl rfl rfl h) (fun h => rr_invI5_no (S' := [.inr (.inr (((ω).1.length : Int))), .inr (.inr l0)]) (L' := [some (.inr (.inr (((ω).1.length : Int))))]) (m' := (33, 0)) rfl rfl rfl rfl rfl rfl h) (fun h1 => ?_)
  refine bv_cg (fun ω2 => ?_)
  refine ck_it (fun h => rr_putfieldr rfl rfl (by rw [Bool.and_eq_true, Bool.and_eq_true]; exact ⟨rfl, rfl, decide_eq_true (by omega)⟩) h) (fun h => rr_putfieldr_no rfl rfl h) (fun h2 => ?_)
  rfl
theorem pX6_init_37 (l0 : Int) (o1 : Option am_V) (ω : am_W) : am_run (83, 0) 37 ([some (.inr (.inr l0)), o1], [], ω) = if am_is (am_new ω (103, 8) (fun _ => -1)) l0 (6, 10) = true then (am_run (83, 0) 46 ([some (.inr (.inr l0)), o1], [], am_put (am_new ω (103, 8) (fun _ => -1)) l0.toNat 4 (((ω).1.length : Int)))) else none := by
  refine Eq.trans (rr_aload_n rfl rfl) ?_
  refine Eq.trans (rr_bipush rfl rfl) ?_
  refine Eq.trans (rr_anewarrayS rfl rfl rfl) ?_
  refine ck_it (fun h => rr_putfieldr rfl rfl (by rw [Bool.and_eq_true, Bool.and_eq_true]; exact ⟨rfl, rfl, decide_eq_true (by omega)⟩) h) (fun h => rr_putfieldr_no rfl rfl h) (fun h1 => ?_)
  rfl
theorem pX6_init_46 (l0 : Int) (o1 : Option am_V) (ω : am_W) : am_run (83, 0) 46 ([some (.inr (.inr l0)), o1], [], ω) = if am_is (am_new ω (100, 5) (fun _ => 0)) l0 (6, 10) = true then (am_run (83, 0) 53 ([some (.inr (.inr l0)), o1], [], am_put (am_new ω (100, 5) (fun _ => 0)) l0.toNat 5 (((ω).1.length : Int)))) else none := by
  refine Eq.trans (rr_aload_n rfl rfl) ?_
  refine Eq.trans (rr_iconst rfl rfl) ?_
  refine Eq.trans (rr_newarrayI rfl rfl) ?_
  refine ck_it (fun h => rr_putfieldr rfl rfl (by rw [Bool.and_eq_true, Bool.and_eq_true]; exact ⟨rfl, rfl, decide_eq_true (by omega)⟩) h) (fun h => rr_putfieldr_no rfl rfl h) (fun h1 => ?_)
  rfl
theorem pX6_init_53 (l0 : Int) (o1 : Option am_V) (ω : am_W) : am_run (83, 0) 53 ([some (.inr (.inr l0)), o1], [], ω) = if am_is (am_new ω (4, 5) (am_d0 4)) (((ω).1.length : Int)) (4, 5) = true then (am_bv (am_run (46, 0) 0 ([some (.inr (.inr (((ω).1.length : Int))))], [], am_new ω (4, 5) (am_d0 4))) (fun ω2 => if am_is ω2 l0 (6, 10) = true then (am_run (83, 0) 64 ([some (.inr (.inr l0)), o1], [], am_put ω2 l0.toNat 6 (((ω).1.length : Int)))) else none)) else none := by
  refine Eq.trans (rr_aload_n rfl rfl) ?_
  refine Eq.trans (rr_new rfl rfl rfl) ?_
  refine Eq.trans (rr_dupr rfl) ?_
  refine ck_it (fun h => rr_invI5v (S' := [.inr (.inr (((ω).1.length : Int))), .inr (.inr l0)]) (L' := [some (.inr (.inr (((ω).1.length : Int))))]) (m' := (46, 0)) rfl rfl rfl rfl rfl rfl h) (fun h => rr_invI5_no (S' := [.inr (.inr (((ω).1.length : Int))), .inr (.inr l0)]) (L' := [some (.inr (.inr (((ω).1.length : Int))))]) (m' := (46, 0)) rfl rfl rfl rfl rfl rfl h) (fun h1 => ?_)
  refine bv_cg (fun ω2 => ?_)
  refine ck_it (fun h => rr_putfieldr rfl rfl (by rw [Bool.and_eq_true, Bool.and_eq_true]; exact ⟨rfl, rfl, decide_eq_true (by omega)⟩) h) (fun h => rr_putfieldr_no rfl rfl h) (fun h2 => ?_)
  rfl
theorem pX6_init_64 (l0 : Int) (o1 : Option am_V) (ω : am_W) : am_run (83, 0) 64 ([some (.inr (.inr l0)), o1], [], ω) = if am_is (am_new ω (4, 5) (am_d0 4)) (((ω).1.length : Int)) (4, 5) = true then (am_bv (am_run (46, 0) 0 ([some (.inr (.inr (((ω).1.length : Int))))], [], am_new ω (4, 5) (am_d0 4))) (fun ω2 => if am_is ω2 l0 (6, 10) = true then (am_run (83, 0) 75 ([some (.inr (.inr l0)), o1], [], am_put ω2 l0.toNat 7 (((ω).1.length : Int)))) else none)) else none := by
  refine Eq.trans (rr_aload_n rfl rfl) ?_
  refine Eq.trans (rr_new rfl rfl rfl) ?_
  refine Eq.trans (rr_dupr rfl) ?_
  refine ck_it (fun h => rr_invI5v (S' := [.inr (.inr (((ω).1.length : Int))), .inr (.inr l0)]) (L' := [some (.inr (.inr (((ω).1.length : Int))))]) (m' := (46, 0)) rfl rfl rfl rfl rfl rfl h) (fun h => rr_invI5_no (S' := [.inr (.inr (((ω).1.length : Int))), .inr (.inr l0)]) (L' := [some (.inr (.inr (((ω).1.length : Int))))]) (m' := (46, 0)) rfl rfl rfl rfl rfl rfl h) (fun h1 => ?_)
  refine bv_cg (fun ω2 => ?_)
  refine ck_it (fun h => rr_putfieldr rfl rfl (by rw [Bool.and_eq_true, Bool.and_eq_true]; exact ⟨rfl, rfl, decide_eq_true (by omega)⟩) h) (fun h => rr_putfieldr_no rfl rfl h) (fun h2 => ?_)
  rfl
theorem pX6_init_75 (l0 : Int) (o1 : Option am_V) (ω : am_W) : am_run (83, 0) 75 ([some (.inr (.inr l0)), o1], [], ω) = am_run (83, 0) 77 ([some (.inr (.inr l0)), some (.inl 0)], [], ω) := by
  refine Eq.trans (rr_iconst rfl rfl) ?_
  refine Eq.trans (rr_istore_n (L' := [some (.inr (.inr l0)), some (.inl 0)]) rfl rfl) ?_
  rfl
theorem pX6_init_77 (l0 l1 : Int) (ω : am_W) (h1 : am_is ω l0 (6, 10) = true) : am_run (83, 0) 77 ([some (.inr (.inr l0)), some (.inl l1)], [], ω) = if 8 ≤ l1 then (some (none, ω)) else (if am_is (am_new ω (2, 3) (am_d0 2)) (((ω).1.length : Int)) (2, 3) = true then (am_bv (am_run (22, 0) 0 ([some (.inr (.inr (((ω).1.length : Int))))], [], am_new ω (2, 3) (am_d0 2))) (fun ω2 => if am_sta2 ω2 (am_get ω l0.toNat 4) l1 (((ω).1.length : Int)) = true then (am_run (83, 0) 96 ([some (.inr (.inr l0)), some (.inl l1)], [], am_put ω2 (am_get ω l0.toNat 4).toNat l1.toNat (((ω).1.length : Int)))) else none)) else none) := by
  refine Eq.trans (rr_iload_n rfl rfl) ?_
  refine Eq.trans (rr_bipush rfl rfl) ?_
  refine Eq.trans (rr_icmp_ge rfl rfl) (it_cg (fun _ => ?_) (fun _ => ?_))
  · exact rr_return rfl rfl
  · refine Eq.trans (rr_aload_n rfl rfl) ?_
    refine Eq.trans (rr_getfr rfl rfl rfl h1) ?_
    refine Eq.trans (rr_iload_n rfl rfl) ?_
    refine Eq.trans (rr_new rfl rfl rfl) ?_
    refine Eq.trans (rr_dupr rfl) ?_
    refine ck_it (fun h => rr_invI5v (S' := [.inr (.inr (((ω).1.length : Int))), .inl l1, .inr (.inr (am_get ω l0.toNat 4))]) (L' := [some (.inr (.inr (((ω).1.length : Int))))]) (m' := (22, 0)) rfl rfl rfl rfl rfl rfl h) (fun h => rr_invI5_no (S' := [.inr (.inr (((ω).1.length : Int))), .inl l1, .inr (.inr (am_get ω l0.toNat 4))]) (L' := [some (.inr (.inr (((ω).1.length : Int))))]) (m' := (22, 0)) rfl rfl rfl rfl rfl rfl h) (fun h2 => ?_)
    refine bv_cg (fun ω2 => ?_)
    refine ck_it (fun h => rr_aastore rfl h) (fun h => rr_aastore_no rfl h) (fun h3 => ?_)
    rfl
theorem pX6_init_96 (l0 l1 : Int) (ω : am_W) : am_run (83, 0) 96 ([some (.inr (.inr l0)), some (.inl l1)], [], ω) = am_run (83, 0) 77 ([some (.inr (.inr l0)), some (.inl (am_w (l1 + 1)))], [], ω) := by
  refine Eq.trans (rr_iinc (L' := [some (.inr (.inr l0)), some (.inl (am_w (l1 + 1)))]) rfl rfl rfl) ?_
  refine Eq.trans (rr_goto rfl rfl) ?_
  rfl
theorem pX6_row_0 (l0 l1 l2 l3 : Int) (ω : am_W) : am_run (84, 0) 0 ([some (.inr (.inr l0)), some (.inl l1), some (.inl l2), some (.inl l3)], [], ω) = am_bi (am_run (140, 0) 0 ([some (.inl l1)], [], ω)) (fun z1 ω1 => if z1 = 0 then (if am_is ω1 l0 (6, 10) = true then (am_bi (am_run (128, 0) 0 ([some (.inr (.inr l0)), some (.inl ((-2))), none], [], ω1)) (fun z2 ω2 => some (some (.inl z2), ω2))) else none) else (if l2 < 0 then (if am_is ω1 l0 (6, 10) = true then (am_bi (am_run (128, 0) 0 ([some (.inr (.inr l0)), some (.inl ((-2))), none], [], ω1)) (fun z3 ω3 => some (some (.inl z3), ω3))) else none) else (if 5 ≤ l2 then (if am_is ω1 l0 (6, 10) = true then (am_bi (am_run (128, 0) 0 ([some (.inr (.inr l0)), some (.inl ((-2))), none], [], ω1)) (fun z4 ω4 => some (some (.inl z4), ω4))) else none) else (if l3 < 0 then (if am_is ω1 l0 (6, 10) = true then (am_bi (am_run (128, 0) 0 ([some (.inr (.inr l0)), some (.inl ((-2))), none], [], ω1)) (fun z5 ω5 => some (some (.inl z5), ω5))) else none) else (if l3 ≤ 40 then (if am_is ω1 l0 (6, 10) = true then (if am_ina ω1 (am_get ω1 l0.toNat 4) l1 = true then (if am_is ω1 (am_get ω1 (am_get ω1 l0.toNat 4).toNat l1.toNat) (2, 3) = true then (am_bv (am_run (29, 0) 0 ([some (.inr (.inr (am_get ω1 (am_get ω1 l0.toNat 4).toNat l1.toNat))), some (.inl l2), some (.inl l3)], [], ω1)) (fun ω6 => some (some (.inl 1), ω6))) else none) else none) else none) else (if am_is ω1 l0 (6, 10) = true then (am_bi (am_run (128, 0) 0 ([some (.inr (.inr l0)), some (.inl ((-2))), none], [], ω1)) (fun z7 ω7 => some (some (.inl z7), ω7))) else none)))))) := by
  refine Eq.trans (rr_iload_n rfl rfl) ?_
  refine Eq.trans (rr_invS2i (S' := []) (L' := [some (.inl l1)]) (m' := (140, 0)) rfl rfl rfl rfl rfl rfl) ?_
  refine bi_cg (fun z1 ω1 => ?_)
  refine Eq.trans (rr_if_eq rfl rfl) (it_cg (fun _ => ?_) (fun _ => ?_))
  · refine Eq.trans (rr_aload_n rfl rfl) ?_
    refine Eq.trans (rr_bipush rfl rfl) ?_
    refine ck_it (fun h => rr_invV0i (S' := []) (L' := [some (.inr (.inr l0)), some (.inl ((-2))), none]) (m' := (128, 0)) rfl rfl rfl rfl rfl rfl h) (fun h => rr_invV0_no (S' := []) (L' := [some (.inr (.inr l0)), some (.inl ((-2))), none]) (m' := (128, 0)) rfl rfl rfl rfl rfl rfl h) (fun h1 => ?_)
    refine bi_cg (fun z2 ω2 => ?_)
    exact rr_ireturn rfl rfl
  · refine Eq.trans (rr_iload_n rfl rfl) ?_
    refine Eq.trans (rr_if_lt rfl rfl) (it_cg (fun _ => ?_) (fun _ => ?_))
    · refine Eq.trans (rr_aload_n rfl rfl) ?_
      refine Eq.trans (rr_bipush rfl rfl) ?_
      refine ck_it (fun h => rr_invV0i (S' := []) (L' := [some (.inr (.inr l0)), some (.inl ((-2))), none]) (m' := (128, 0)) rfl rfl rfl rfl rfl rfl h) (fun h => rr_invV0_no (S' := []) (L' := [some (.inr (.inr l0)), some (.inl ((-2))), none]) (m' := (128, 0)) rfl rfl rfl rfl rfl rfl h) (fun h2 => ?_)
      refine bi_cg (fun z3 ω3 => ?_)
      exact rr_ireturn rfl rfl
    · refine Eq.trans (rr_iload_n rfl rfl) ?_
      refine Eq.trans (rr_iconst rfl rfl) ?_
      refine Eq.trans (rr_icmp_ge rfl rfl) (it_cg (fun _ => ?_) (fun _ => ?_))
      · refine Eq.trans (rr_aload_n rfl rfl) ?_
        refine Eq.trans (rr_bipush rfl rfl) ?_
        refine ck_it (fun h => rr_invV0i (S' := []) (L' := [some (.inr (.inr l0)), some (.inl ((-2))), none]) (m' := (128, 0)) rfl rfl rfl rfl rfl rfl h) (fun h => rr_invV0_no (S' := []) (L' := [some (.inr (.inr l0)), some (.inl ((-2))), none]) (m' := (128, 0)) rfl rfl rfl rfl rfl rfl h) (fun h3 => ?_)
        refine bi_cg (fun z4 ω4 => ?_)
        exact rr_ireturn rfl rfl
      · refine Eq.trans (rr_iload_n rfl rfl) ?_
        refine Eq.trans (rr_if_lt rfl rfl) (it_cg (fun _ => ?_) (fun _ => ?_))
        · refine Eq.trans (rr_aload_n rfl rfl) ?_
          refine Eq.trans (rr_bipush rfl rfl) ?_
          refine ck_it (fun h => rr_invV0i (S' := []) (L' := [some (.inr (.inr l0)), some (.inl ((-2))), none]) (m' := (128, 0)) rfl rfl rfl rfl rfl rfl h) (fun h => rr_invV0_no (S' := []) (L' := [some (.inr (.inr l0)), some (.inl ((-2))), none]) (m' := (128, 0)) rfl rfl rfl rfl rfl rfl h) (fun h4 => ?_)
          refine bi_cg (fun z5 ω5 => ?_)
          exact rr_ireturn rfl rfl
        · refine Eq.trans (rr_iload_n rfl rfl) ?_
          refine Eq.trans (rr_bipush rfl rfl) ?_
          refine Eq.trans (rr_icmp_le rfl rfl) (it_cg (fun _ => ?_) (fun _ => ?_))
          · refine Eq.trans (rr_aload_n rfl rfl) ?_
            refine ck_it (fun h => rr_getfr rfl rfl rfl h) (fun h => rr_getfield_no rfl rfl h) (fun h5 => ?_)
            refine Eq.trans (rr_iload_n rfl rfl) ?_
            refine ck_it (fun h => rr_aaload rfl h) (fun h => rr_aaload_no rfl h) (fun h6 => ?_)
            refine Eq.trans (rr_iload_n rfl rfl) ?_
            refine Eq.trans (rr_iload_n rfl rfl) ?_
            refine ck_it (fun h => rr_invV0v (S' := []) (L' := [some (.inr (.inr (am_get ω1 (am_get ω1 l0.toNat 4).toNat l1.toNat))), some (.inl l2), some (.inl l3)]) (m' := (29, 0)) rfl rfl rfl rfl rfl rfl h) (fun h => rr_invV0_no (S' := []) (L' := [some (.inr (.inr (am_get ω1 (am_get ω1 l0.toNat 4).toNat l1.toNat))), some (.inl l2), some (.inl l3)]) (m' := (29, 0)) rfl rfl rfl rfl rfl rfl h) (fun h7 => ?_)
            refine bv_cg (fun ω6 => ?_)
            refine Eq.trans (rr_iconst rfl rfl) ?_
            exact rr_ireturn rfl rfl
          · refine Eq.trans (rr_aload_n rfl rfl) ?_
            refine Eq.trans (rr_bipush rfl rfl) ?_
            refine ck_it (fun h => rr_invV0i (S' := []) (L' := [some (.inr (.inr l0)), some (.inl ((-2))), none]) (m' := (128, 0)) rfl rfl rfl rfl rfl rfl h) (fun h => rr_invV0_no (S' := []) (L' := [some (.inr (.inr l0)), some (.inl ((-2))), none]) (m' := (128, 0)) rfl rfl rfl rfl rfl rfl h) (fun h8 => ?_)
            refine bi_cg (fun z7 ω7 => ?_)
            exact rr_ireturn rfl rfl
theorem pX6_set_0 (l0 l1 l2 l3 : Int) (ω : am_W) (h1 : am_is ω l0 (6, 10) = true) : am_run (85, 0) 0 ([some (.inr (.inr l0)), some (.inl l1), some (.inl l2), some (.inr (.inl l3)), none, none, none], [], ω) = am_bi (am_run (131, 0) 0 ([some (.inr (.inr l0)), some (.inl l1), some (.inl 1), some (.inl 0), none], [], ω)) (fun z1 ω1 => if z1 = 0 then (if am_is ω1 l0 (6, 10) = true then (if am_ina ω1 (am_get ω1 l0.toNat 4) l1 = true then (if l2 < 0 then (am_bi (am_run (128, 0) 0 ([some (.inr (.inr l0)), some (.inl ((-2))), none], [], ω1)) (fun z2 ω2 => some (some (.inl z2), ω2))) else (if am_is ω1 (am_get ω1 (am_get ω1 l0.toNat 4).toNat l1.toNat) (2, 3) = true then (if l2 < (am_get ω1 (am_get ω1 (am_get ω1 l0.toNat 4).toNat l1.toNat).toNat 1) then (am_bv (am_run (31, 0) 0 ([some (.inr (.inr (am_get ω1 (am_get ω1 l0.toNat 4).toNat l1.toNat))), some (.inl l2), some (.inr (.inl l3)), none], [], ω1)) (fun ω3 => some (some (.inl 1), ω3))) else (am_bi (am_run (128, 0) 0 ([some (.inr (.inr l0)), some (.inl ((-2))), none], [], ω1)) (fun z4 ω4 => some (some (.inl z4), ω4)))) else none)) else none) else none) else (if am_is ω1 l0 (6, 10) = true then (am_bi (am_run (128, 0) 0 ([some (.inr (.inr l0)), some (.inl z1), none], [], ω1)) (fun z5 ω5 => some (some (.inl z5), ω5))) else none)) := by
  refine Eq.trans (rr_aload_n rfl rfl) ?_
  refine Eq.trans (rr_iload_n rfl rfl) ?_
  refine Eq.trans (rr_iconst rfl rfl) ?_
  refine Eq.trans (rr_iconst rfl rfl) ?_
  refine Eq.trans (rr_invV0i (S' := []) (L' := [some (.inr (.inr l0)), some (.inl l1), some (.inl 1), some (.inl 0), none]) (m' := (131, 0)) rfl rfl rfl rfl rfl rfl h1) ?_
  refine bi_cg (fun z1 ω1 => ?_)
  refine Eq.trans (rr_istore (L' := [some (.inr (.inr l0)), some (.inl l1), some (.inl l2), some (.inr (.inl l3)), none, some (.inl z1), none]) rfl rfl) ?_
  refine Eq.trans (rr_iload rfl rfl) ?_
  refine Eq.trans (rr_if_eq rfl rfl) (it_cg (fun _ => ?_) (fun _ => ?_))
  · refine Eq.trans (rr_aload_n rfl rfl) ?_
    refine ck_it (fun h => rr_getfr rfl rfl rfl h) (fun h => rr_getfield_no rfl rfl h) (fun h2 => ?_)
    refine Eq.trans (rr_iload_n rfl rfl) ?_
    refine ck_it (fun h => rr_aaload rfl h) (fun h => rr_aaload_no rfl h) (fun h3 => ?_)
    refine Eq.trans (rr_astore (L' := [some (.inr (.inr l0)), some (.inl l1), some (.inl l2), some (.inr (.inl l3)), none, some (.inl z1), some (.inr (.inr (am_get ω1 (am_get ω1 l0.toNat 4).toNat l1.toNat)))]) rfl rfl) ?_
    refine Eq.trans (rr_iload_n rfl rfl) ?_
    refine Eq.trans (rr_if_lt rfl rfl) (it_cg (fun _ => ?_) (fun _ => ?_))
    · refine Eq.trans (rr_aload_n rfl rfl) ?_
      refine Eq.trans (rr_bipush rfl rfl) ?_
      refine Eq.trans (rr_invV0i (S' := []) (L' := [some (.inr (.inr l0)), some (.inl ((-2))), none]) (m' := (128, 0)) rfl rfl rfl rfl rfl rfl h2) ?_
      refine bi_cg (fun z2 ω2 => ?_)
      exact rr_ireturn rfl rfl
    · refine Eq.trans (rr_iload_n rfl rfl) ?_
      refine Eq.trans (rr_aload rfl rfl) ?_
      refine ck_it (fun h => rr_getfi rfl rfl rfl h) (fun h => rr_getfield_no rfl rfl h) (fun h4 => ?_)
      refine Eq.trans (rr_icmp_lt rfl rfl) (it_cg (fun _ => ?_) (fun _ => ?_))
      · refine Eq.trans (rr_aload rfl rfl) ?_
        refine Eq.trans (rr_iload_n rfl rfl) ?_
        refine Eq.trans (rr_lload_n rfl rfl) ?_
        refine Eq.trans (rr_invV0v (S' := []) (L' := [some (.inr (.inr (am_get ω1 (am_get ω1 l0.toNat 4).toNat l1.toNat))), some (.inl l2), some (.inr (.inl l3)), none]) (m' := (31, 0)) rfl rfl rfl rfl rfl rfl h4) ?_
        refine bv_cg (fun ω3 => ?_)
        refine Eq.trans (rr_iconst rfl rfl) ?_
        exact rr_ireturn rfl rfl
      · refine Eq.trans (rr_aload_n rfl rfl) ?_
        refine Eq.trans (rr_bipush rfl rfl) ?_
        refine Eq.trans (rr_invV0i (S' := []) (L' := [some (.inr (.inr l0)), some (.inl ((-2))), none]) (m' := (128, 0)) rfl rfl rfl rfl rfl rfl h2) ?_
        refine bi_cg (fun z4 ω4 => ?_)
        exact rr_ireturn rfl rfl
  · refine Eq.trans (rr_aload_n rfl rfl) ?_
    refine Eq.trans (rr_iload rfl rfl) ?_
    refine ck_it (fun h => rr_invV0i (S' := []) (L' := [some (.inr (.inr l0)), some (.inl z1), none]) (m' := (128, 0)) rfl rfl rfl rfl rfl rfl h) (fun h => rr_invV0_no (S' := []) (L' := [some (.inr (.inr l0)), some (.inl z1), none]) (m' := (128, 0)) rfl rfl rfl rfl rfl rfl h) (fun h5 => ?_)
    refine bi_cg (fun z5 ω5 => ?_)
    exact rr_ireturn rfl rfl
theorem pX6_copy_0 (l0 l1 l2 l3 l4 l5 : Int) (ω : am_W) : am_run (86, 0) 0 ([some (.inr (.inr l0)), some (.inl l1), some (.inl l2), some (.inl l3), some (.inl l4), some (.inl l5), none, none, none], [], ω) = am_bi (am_run (140, 0) 0 ([some (.inl l1)], [], ω)) (fun z1 ω1 => if z1 = 0 then (if am_is ω1 l0 (6, 10) = true then (am_bi (am_run (128, 0) 0 ([some (.inr (.inr l0)), some (.inl ((-2))), none], [], ω1)) (fun z2 ω2 => some (some (.inl z2), ω2))) else none) else (am_bi (am_run (140, 0) 0 ([some (.inl l2)], [], ω1)) (fun z3 ω3 => if ¬ z3 = 0 then (if am_is ω3 l0 (6, 10) = true then (if am_ina ω3 (am_get ω3 l0.toNat 4) l1 = true then (if am_ina ω3 (am_get ω3 l0.toNat 4) l2 = true then (if am_is ω3 (am_get ω3 (am_get ω3 l0.toNat 4).toNat l1.toNat) (2, 3) = true then (am_bi (am_run (25, 0) 0 ([some (.inr (.inr (am_get ω3 (am_get ω3 l0.toNat 4).toNat l1.toNat)))], [], ω3)) (fun z4 ω4 => if z4 = 0 then (am_run (86, 0) 70 ([some (.inr (.inr l0)), some (.inl l1), some (.inl l2), some (.inl l3), some (.inl l4), some (.inl l5), some (.inr (.inr (am_get ω3 (am_get ω3 l0.toNat 4).toNat l1.toNat))), some (.inr (.inr (am_get ω3 (am_get ω3 l0.toNat 4).toNat l2.toNat))), none], [], ω4)) else (if am_is ω4 (am_get ω3 (am_get ω3 l0.toNat 4).toNat l2.toNat) (2, 3) = true then (am_bi (am_run (25, 0) 0 ([some (.inr (.inr (am_get ω3 (am_get ω3 l0.toNat 4).toNat l2.toNat)))], [], ω4)) (fun z5 ω5 => if z5 = 0 then (am_run (86, 0) 70 ([some (.inr (.inr l0)), some (.inl l1), some (.inl l2), some (.inl l3), some (.inl l4), some (.inl l5), some (.inr (.inr (am_get ω3 (am_get ω3 l0.toNat 4).toNat l1.toNat))), some (.inr (.inr (am_get ω3 (am_get ω3 l0.toNat 4).toNat l2.toNat))), none], [], ω5)) else (if am_is ω5 (am_get ω3 (am_get ω3 l0.toNat 4).toNat l1.toNat) (2, 3) = true then (if am_is ω5 (am_get ω3 (am_get ω3 l0.toNat 4).toNat l2.toNat) (2, 3) = true then (if (am_get ω5 (am_get ω3 (am_get ω3 l0.toNat 4).toNat l1.toNat).toNat 0) = (am_get ω5 (am_get ω3 (am_get ω3 l0.toNat 4).toNat l2.toNat).toNat 0) then (am_run (86, 0) 70 ([some (.inr (.inr l0)), some (.inl l1), some (.inl l2), some (.inl l3), some (.inl l4), some (.inl l5), some (.inr (.inr (am_get ω3 (am_get ω3 l0.toNat 4).toNat l1.toNat))), some (.inr (.inr (am_get ω3 (am_get ω3 l0.toNat 4).toNat l2.toNat))), none], [], ω5)) else (am_run (86, 0) 71 ([some (.inr (.inr l0)), some (.inl l1), some (.inl l2), some (.inl l3), some (.inl l4), some (.inl l5), some (.inr (.inr (am_get ω3 (am_get ω3 l0.toNat 4).toNat l1.toNat))), some (.inr (.inr (am_get ω3 (am_get ω3 l0.toNat 4).toNat l2.toNat))), none], [.inl 1], ω5))) else none) else none))) else none))) else none) else none) else none) else none) else (if am_is ω3 l0 (6, 10) = true then (am_bi (am_run (128, 0) 0 ([some (.inr (.inr l0)), some (.inl ((-2))), none], [], ω3)) (fun z6 ω6 => some (some (.inl z6), ω6))) else none)))) := by
  refine Eq.trans (rr_iload_n rfl rfl) ?_
  refine Eq.trans (rr_invS2i (S' := []) (L' := [some (.inl l1)]) (m' := (140, 0)) rfl rfl rfl rfl rfl rfl) ?_
  refine bi_cg (fun z1 ω1 => ?_)
  refine Eq.trans (rr_if_eq rfl rfl) (it_cg (fun _ => ?_) (fun _ => ?_))
  · refine Eq.trans (rr_aload_n rfl rfl) ?_
    refine Eq.trans (rr_bipush rfl rfl) ?_
    refine ck_it (fun h => rr_invV0i (S' := []) (L' := [some (.inr (.inr l0)), some (.inl ((-2))), none]) (m' := (128, 0)) rfl rfl rfl rfl rfl rfl h) (fun h => rr_invV0_no (S' := []) (L' := [some (.inr (.inr l0)), some (.inl ((-2))), none]) (m' := (128, 0)) rfl rfl rfl rfl rfl rfl h) (fun h1 => ?_)
    refine bi_cg (fun z2 ω2 => ?_)
    exact rr_ireturn rfl rfl
  · refine Eq.trans (rr_iload_n rfl rfl) ?_
    refine Eq.trans (rr_invS2i (S' := []) (L' := [some (.inl l2)]) (m' := (140, 0)) rfl rfl rfl rfl rfl rfl) ?_
    refine bi_cg (fun z3 ω3 => ?_)
    refine Eq.trans (rr_if_ne rfl rfl) (it_cg (fun _ => ?_) (fun _ => ?_))
    · refine Eq.trans (rr_aload_n rfl rfl) ?_
      refine ck_it (fun h => rr_getfr rfl rfl rfl h) (fun h => rr_getfield_no rfl rfl h) (fun h2 => ?_)
      refine Eq.trans (rr_iload_n rfl rfl) ?_
      refine ck_it (fun h => rr_aaload rfl h) (fun h => rr_aaload_no rfl h) (fun h3 => ?_)
      refine Eq.trans (rr_astore (L' := [some (.inr (.inr l0)), some (.inl l1), some (.inl l2), some (.inl l3), some (.inl l4), some (.inl l5), some (.inr (.inr (am_get ω3 (am_get ω3 l0.toNat 4).toNat l1.toNat))), none, none]) rfl rfl) ?_
      refine Eq.trans (rr_aload_n rfl rfl) ?_
      refine Eq.trans (rr_getfr rfl rfl rfl h2) ?_
      refine Eq.trans (rr_iload_n rfl rfl) ?_
      refine ck_it (fun h => rr_aaload rfl h) (fun h => rr_aaload_no rfl h) (fun h4 => ?_)
      refine Eq.trans (rr_astore (L' := [some (.inr (.inr l0)), some (.inl l1), some (.inl l2), some (.inl l3), some (.inl l4), some (.inl l5), some (.inr (.inr (am_get ω3 (am_get ω3 l0.toNat 4).toNat l1.toNat))), some (.inr (.inr (am_get ω3 (am_get ω3 l0.toNat 4).toNat l2.toNat))), none]) rfl rfl) ?_
      refine Eq.trans (rr_aload rfl rfl) ?_
      refine ck_it (fun h => rr_invV0i (S' := []) (L' := [some (.inr (.inr (am_get ω3 (am_get ω3 l0.toNat 4).toNat l1.toNat)))]) (m' := (25, 0)) rfl rfl rfl rfl rfl rfl h) (fun h => rr_invV0_no (S' := []) (L' := [some (.inr (.inr (am_get ω3 (am_get ω3 l0.toNat 4).toNat l1.toNat)))]) (m' := (25, 0)) rfl rfl rfl rfl rfl rfl h) (fun h5 => ?_)
      refine bi_cg (fun z4 ω4 => ?_)
      refine Eq.trans (rr_if_eq rfl rfl) (it_cg (fun _ => ?_) (fun _ => ?_))
      · rfl
      · refine Eq.trans (rr_aload rfl rfl) ?_
        refine ck_it (fun h => rr_invV0i (S' := []) (L' := [some (.inr (.inr (am_get ω3 (am_get ω3 l0.toNat 4).toNat l2.toNat)))]) (m' := (25, 0)) rfl rfl rfl rfl rfl rfl h) (fun h => rr_invV0_no (S' := []) (L' := [some (.inr (.inr (am_get ω3 (am_get ω3 l0.toNat 4).toNat l2.toNat)))]) (m' := (25, 0)) rfl rfl rfl rfl rfl rfl h) (fun h6 => ?_)
        refine bi_cg (fun z5 ω5 => ?_)
        refine Eq.trans (rr_if_eq rfl rfl) (it_cg (fun _ => ?_) (fun _ => ?_))
        · rfl
        · refine Eq.trans (rr_aload rfl rfl) ?_
          refine ck_it (fun h => rr_getfi rfl rfl rfl h) (fun h => rr_getfield_no rfl rfl h) (fun h7 => ?_)
          refine Eq.trans (rr_aload rfl rfl) ?_
          refine ck_it (fun h => rr_getfi rfl rfl rfl h) (fun h => rr_getfield_no rfl rfl h) (fun h8 => ?_)
          refine Eq.trans (rr_icmp_eq rfl rfl) (it_cg (fun _ => ?_) (fun _ => ?_))
          · rfl
          · refine Eq.trans (rr_iconst rfl rfl) ?_
            refine Eq.trans (rr_goto rfl rfl) ?_
            rfl
    · refine Eq.trans (rr_aload_n rfl rfl) ?_
      refine Eq.trans (rr_bipush rfl rfl) ?_
      refine ck_it (fun h => rr_invV0i (S' := []) (L' := [some (.inr (.inr l0)), some (.inl ((-2))), none]) (m' := (128, 0)) rfl rfl rfl rfl rfl rfl h) (fun h => rr_invV0_no (S' := []) (L' := [some (.inr (.inr l0)), some (.inl ((-2))), none]) (m' := (128, 0)) rfl rfl rfl rfl rfl rfl h) (fun h9 => ?_)
      refine bi_cg (fun z6 ω6 => ?_)
      exact rr_ireturn rfl rfl
theorem pX6_copy_70 (l0 l1 l2 l3 l4 l5 l6 l7 : Int) (o8 : Option am_V) (ω : am_W) : am_run (86, 0) 70 ([some (.inr (.inr l0)), some (.inl l1), some (.inl l2), some (.inl l3), some (.inl l4), some (.inl l5), some (.inr (.inr l6)), some (.inr (.inr l7)), o8], [], ω) = am_run (86, 0) 71 ([some (.inr (.inr l0)), some (.inl l1), some (.inl l2), some (.inl l3), some (.inl l4), some (.inl l5), some (.inr (.inr l6)), some (.inr (.inr l7)), o8], [.inl 0], ω) := by
  refine Eq.trans (rr_iconst rfl rfl) ?_
  rfl
theorem pX6_copy_71 (l0 l1 l2 l3 l4 l5 l6 l7 s0 : Int) (o8 : Option am_V) (ω : am_W) (h1 : am_is ω l6 (2, 3) = true) : am_run (86, 0) 71 ([some (.inr (.inr l0)), some (.inl l1), some (.inl l2), some (.inl l3), some (.inl l4), some (.inl l5), some (.inr (.inr l6)), some (.inr (.inr l7)), o8], [.inl s0], ω) = am_bi (am_run (24, 0) 0 ([some (.inr (.inr l6))], [], ω)) (fun z1 ω1 => if ¬ z1 = 0 then (if am_is ω1 l0 (6, 10) = true then (am_bi (am_run (128, 0) 0 ([some (.inr (.inr l0)), some (.inl ((-3))), none], [], ω1)) (fun z2 ω2 => some (some (.inl z2), ω2))) else none) else (if am_is ω1 l7 (2, 3) = true then (am_bi (am_run (24, 0) 0 ([some (.inr (.inr l7))], [], ω1)) (fun z3 ω3 => if ¬ z3 = 0 then (if am_is ω3 l0 (6, 10) = true then (am_bi (am_run (128, 0) 0 ([some (.inr (.inr l0)), some (.inl ((-3))), none], [], ω3)) (fun z4 ω4 => some (some (.inl z4), ω4))) else none) else (if s0 = 0 then (if am_is ω3 l6 (2, 3) = true then (am_bi (am_run (23, 0) 0 ([some (.inr (.inr l6))], [], ω3)) (fun z5 ω5 => if ¬ z5 = 0 then (if am_is ω5 l0 (6, 10) = true then (am_bi (am_run (128, 0) 0 ([some (.inr (.inr l0)), some (.inl ((-4))), none], [], ω5)) (fun z6 ω6 => some (some (.inl z6), ω6))) else none) else (if am_is ω5 l7 (2, 3) = true then (am_bi (am_run (23, 0) 0 ([some (.inr (.inr l7))], [], ω5)) (fun z7 ω7 => if z7 = 0 then (if am_is ω7 l6 (2, 3) = true then (am_bi (am_run (30, 0) 0 ([some (.inr (.inr l6)), some (.inl l3), some (.inl l5)], [], ω7)) (fun z8 ω8 => if z8 = 0 then (if am_is ω8 l0 (6, 10) = true then (am_bi (am_run (128, 0) 0 ([some (.inr (.inr l0)), some (.inl ((-2))), none], [], ω8)) (fun z9 ω9 => some (some (.inl z9), ω9))) else none) else (if am_is ω8 l7 (2, 3) = true then (am_bi (am_run (30, 0) 0 ([some (.inr (.inr l7)), some (.inl l4), some (.inl l5)], [], ω8)) (fun z10 ω10 => if ¬ z10 = 0 then (if am_is ω10 l6 (2, 3) = true then (if am_is ω10 l7 (2, 3) = true then (if am_cpok ω10 (am_get ω10 l6.toNat 2) l3 (am_get ω10 l7.toNat 2) l4 l5 = true then (some (some (.inl l5), am_cpy ω10 (am_get ω10 l6.toNat 2).toNat l3.toNat (am_get ω10 l7.toNat 2).toNat l4.toNat l5.toNat)) else none) else none) else none) else (if am_is ω10 l0 (6, 10) = true then (am_bi (am_run (128, 0) 0 ([some (.inr (.inr l0)), some (.inl ((-2))), none], [], ω10)) (fun z11 ω11 => some (some (.inl z11), ω11))) else none))) else none))) else none) else (if am_is ω7 l0 (6, 10) = true then (am_bi (am_run (128, 0) 0 ([some (.inr (.inr l0)), some (.inl ((-4))), none], [], ω7)) (fun z12 ω12 => some (some (.inl z12), ω12))) else none))) else none))) else none) else (if am_is ω3 l0 (6, 10) = true then (am_bi (am_run (128, 0) 0 ([some (.inr (.inr l0)), some (.inl ((-3))), none], [], ω3)) (fun z13 ω13 => some (some (.inl z13), ω13))) else none)))) else none)) := by
  refine Eq.trans (rr_istore (L' := [some (.inr (.inr l0)), some (.inl l1), some (.inl l2), some (.inl l3), some (.inl l4), some (.inl l5), some (.inr (.inr l6)), some (.inr (.inr l7)), some (.inl s0)]) rfl rfl) ?_
  refine Eq.trans (rr_aload rfl rfl) ?_
  refine Eq.trans (rr_invV0i (S' := []) (L' := [some (.inr (.inr l6))]) (m' := (24, 0)) rfl rfl rfl rfl rfl rfl h1) ?_
  refine bi_cg (fun z1 ω1 => ?_)
  refine Eq.trans (rr_if_ne rfl rfl) (it_cg (fun _ => ?_) (fun _ => ?_))
  · refine Eq.trans (rr_aload_n rfl rfl) ?_
    refine Eq.trans (rr_bipush rfl rfl) ?_
    refine ck_it (fun h => rr_invV0i (S' := []) (L' := [some (.inr (.inr l0)), some (.inl ((-3))), none]) (m' := (128, 0)) rfl rfl rfl rfl rfl rfl h) (fun h => rr_invV0_no (S' := []) (L' := [some (.inr (.inr l0)), some (.inl ((-3))), none]) (m' := (128, 0)) rfl rfl rfl rfl rfl rfl h) (fun h2 => ?_)
    refine bi_cg (fun z2 ω2 => ?_)
    exact rr_ireturn rfl rfl
  · refine Eq.trans (rr_aload rfl rfl) ?_
    refine ck_it (fun h => rr_invV0i (S' := []) (L' := [some (.inr (.inr l7))]) (m' := (24, 0)) rfl rfl rfl rfl rfl rfl h) (fun h => rr_invV0_no (S' := []) (L' := [some (.inr (.inr l7))]) (m' := (24, 0)) rfl rfl rfl rfl rfl rfl h) (fun h3 => ?_)
    refine bi_cg (fun z3 ω3 => ?_)
    refine Eq.trans (rr_if_ne rfl rfl) (it_cg (fun _ => ?_) (fun _ => ?_))
    · refine Eq.trans (rr_aload_n rfl rfl) ?_
      refine Eq.trans (rr_bipush rfl rfl) ?_
      refine ck_it (fun h => rr_invV0i (S' := []) (L' := [some (.inr (.inr l0)), some (.inl ((-3))), none]) (m' := (128, 0)) rfl rfl rfl rfl rfl rfl h) (fun h => rr_invV0_no (S' := []) (L' := [some (.inr (.inr l0)), some (.inl ((-3))), none]) (m' := (128, 0)) rfl rfl rfl rfl rfl rfl h) (fun h4 => ?_)
      refine bi_cg (fun z4 ω4 => ?_)
      exact rr_ireturn rfl rfl
    · refine Eq.trans (rr_iload rfl rfl) ?_
      refine Eq.trans (rr_if_eq rfl rfl) (it_cg (fun _ => ?_) (fun _ => ?_))
      · refine Eq.trans (rr_aload rfl rfl) ?_
        refine ck_it (fun h => rr_invV0i (S' := []) (L' := [some (.inr (.inr l6))]) (m' := (23, 0)) rfl rfl rfl rfl rfl rfl h) (fun h => rr_invV0_no (S' := []) (L' := [some (.inr (.inr l6))]) (m' := (23, 0)) rfl rfl rfl rfl rfl rfl h) (fun h5 => ?_)
        refine bi_cg (fun z5 ω5 => ?_)
        refine Eq.trans (rr_if_ne rfl rfl) (it_cg (fun _ => ?_) (fun _ => ?_))
        · refine Eq.trans (rr_aload_n rfl rfl) ?_
          refine Eq.trans (rr_bipush rfl rfl) ?_
          refine ck_it (fun h => rr_invV0i (S' := []) (L' := [some (.inr (.inr l0)), some (.inl ((-4))), none]) (m' := (128, 0)) rfl rfl rfl rfl rfl rfl h) (fun h => rr_invV0_no (S' := []) (L' := [some (.inr (.inr l0)), some (.inl ((-4))), none]) (m' := (128, 0)) rfl rfl rfl rfl rfl rfl h) (fun h6 => ?_)
          refine bi_cg (fun z6 ω6 => ?_)
          exact rr_ireturn rfl rfl
        · refine Eq.trans (rr_aload rfl rfl) ?_
          refine ck_it (fun h => rr_invV0i (S' := []) (L' := [some (.inr (.inr l7))]) (m' := (23, 0)) rfl rfl rfl rfl rfl rfl h) (fun h => rr_invV0_no (S' := []) (L' := [some (.inr (.inr l7))]) (m' := (23, 0)) rfl rfl rfl rfl rfl rfl h) (fun h7 => ?_)
          refine bi_cg (fun z7 ω7 => ?_)
          refine Eq.trans (rr_if_eq rfl rfl) (it_cg (fun _ => ?_) (fun _ => ?_))
          · refine Eq.trans (rr_aload rfl rfl) ?_
            refine Eq.trans (rr_iload_n rfl rfl) ?_
            refine Eq.trans (rr_iload rfl rfl) ?_
            refine ck_it (fun h => rr_invV0i (S' := []) (L' := [some (.inr (.inr l6)), some (.inl l3), some (.inl l5)]) (m' := (30, 0)) rfl rfl rfl rfl rfl rfl h) (fun h => rr_invV0_no (S' := []) (L' := [some (.inr (.inr l6)), some (.inl l3), some (.inl l5)]) (m' := (30, 0)) rfl rfl rfl rfl rfl rfl h) (fun h8 => ?_)
            refine bi_cg (fun z8 ω8 => ?_)
            refine Eq.trans (rr_if_eq rfl rfl) (it_cg (fun _ => ?_) (fun _ => ?_))
            · refine Eq.trans (rr_aload_n rfl rfl) ?_
              refine Eq.trans (rr_bipush rfl rfl) ?_
              refine ck_it (fun h => rr_invV0i (S' := []) (L' := [some (.inr (.inr l0)), some (.inl ((-2))), none]) (m' := (128, 0)) rfl rfl rfl rfl rfl rfl h) (fun h => rr_invV0_no (S' := []) (L' := [some (.inr (.inr l0)), some (.inl ((-2))), none]) (m' := (128, 0)) rfl rfl rfl rfl rfl rfl h) (fun h9 => ?_)
              refine bi_cg (fun z9 ω9 => ?_)
              exact rr_ireturn rfl rfl
            · refine Eq.trans (rr_aload rfl rfl) ?_
              refine Eq.trans (rr_iload rfl rfl) ?_
              refine Eq.trans (rr_iload rfl rfl) ?_
              refine ck_it (fun h => rr_invV0i (S' := []) (L' := [some (.inr (.inr l7)), some (.inl l4), some (.inl l5)]) (m' := (30, 0)) rfl rfl rfl rfl rfl rfl h) (fun h => rr_invV0_no (S' := []) (L' := [some (.inr (.inr l7)), some (.inl l4), some (.inl l5)]) (m' := (30, 0)) rfl rfl rfl rfl rfl rfl h) (fun h10 => ?_)
              refine bi_cg (fun z10 ω10 => ?_)
              refine Eq.trans (rr_if_ne rfl rfl) (it_cg (fun _ => ?_) (fun _ => ?_))
              · refine Eq.trans (rr_aload rfl rfl) ?_
                refine ck_it (fun h => rr_getfr rfl rfl rfl h) (fun h => rr_getfield_no rfl rfl h) (fun h11 => ?_)
                refine Eq.trans (rr_iload_n rfl rfl) ?_
                refine Eq.trans (rr_aload rfl rfl) ?_
                refine ck_it (fun h => rr_getfr rfl rfl rfl h) (fun h => rr_getfield_no rfl rfl h) (fun h12 => ?_)
                refine Eq.trans (rr_iload rfl rfl) ?_
                refine Eq.trans (rr_iload rfl rfl) ?_
                refine ck_it (fun h => rr_acpy rfl rfl rfl rfl h) (fun h => rr_acpy_no rfl rfl rfl rfl h) (fun h13 => ?_)
                refine Eq.trans (rr_iload rfl rfl) ?_
                exact rr_ireturn rfl rfl
              · refine Eq.trans (rr_aload_n rfl rfl) ?_
                refine Eq.trans (rr_bipush rfl rfl) ?_
                refine ck_it (fun h => rr_invV0i (S' := []) (L' := [some (.inr (.inr l0)), some (.inl ((-2))), none]) (m' := (128, 0)) rfl rfl rfl rfl rfl rfl h) (fun h => rr_invV0_no (S' := []) (L' := [some (.inr (.inr l0)), some (.inl ((-2))), none]) (m' := (128, 0)) rfl rfl rfl rfl rfl rfl h) (fun h14 => ?_)
                refine bi_cg (fun z11 ω11 => ?_)
                exact rr_ireturn rfl rfl
          · refine Eq.trans (rr_aload_n rfl rfl) ?_
            refine Eq.trans (rr_bipush rfl rfl) ?_
            refine ck_it (fun h => rr_invV0i (S' := []) (L' := [some (.inr (.inr l0)), some (.inl ((-4))), none]) (m' := (128, 0)) rfl rfl rfl rfl rfl rfl h) (fun h => rr_invV0_no (S' := []) (L' := [some (.inr (.inr l0)), some (.inl ((-4))), none]) (m' := (128, 0)) rfl rfl rfl rfl rfl rfl h) (fun h15 => ?_)
            refine bi_cg (fun z12 ω12 => ?_)
            exact rr_ireturn rfl rfl
      · refine Eq.trans (rr_aload_n rfl rfl) ?_
        refine Eq.trans (rr_bipush rfl rfl) ?_
        refine ck_it (fun h => rr_invV0i (S' := []) (L' := [some (.inr (.inr l0)), some (.inl ((-3))), none]) (m' := (128, 0)) rfl rfl rfl rfl rfl rfl h) (fun h => rr_invV0_no (S' := []) (L' := [some (.inr (.inr l0)), some (.inl ((-3))), none]) (m' := (128, 0)) rfl rfl rfl rfl rfl rfl h) (fun h16 => ?_)
        refine bi_cg (fun z13 ω13 => ?_)
        exact rr_ireturn rfl rfl
theorem pX6_element_0 (l0 l1 l2 : Int) (ω : am_W) : am_run (87, 0) 0 ([some (.inr (.inr l0)), some (.inl l1), some (.inl l2)], [], ω) = am_bi (am_run (140, 0) 0 ([some (.inl l1)], [], ω)) (fun z1 ω1 => if z1 = 0 then (some (some (.inr (.inl 0)), ω1)) else (if am_is ω1 l0 (6, 10) = true then (if am_ina ω1 (am_get ω1 l0.toNat 4) l1 = true then (if am_is ω1 (am_get ω1 (am_get ω1 l0.toNat 4).toNat l1.toNat) (2, 3) = true then (am_bi (am_run (25, 0) 0 ([some (.inr (.inr (am_get ω1 (am_get ω1 l0.toNat 4).toNat l1.toNat)))], [], ω1)) (fun z2 ω2 => if z2 = 0 then (some (some (.inr (.inl 0)), ω2)) else (if l2 < 0 then (some (some (.inr (.inl 0)), ω2)) else (if am_is ω2 l0 (6, 10) = true then (if am_ina ω2 (am_get ω2 l0.toNat 4) l1 = true then (if am_is ω2 (am_get ω2 (am_get ω2 l0.toNat 4).toNat l1.toNat) (2, 3) = true then (if l2 < (am_get ω2 (am_get ω2 (am_get ω2 l0.toNat 4).toNat l1.toNat).toNat 1) then (if am_in ω2 (am_get ω2 (am_get ω2 (am_get ω2 l0.toNat 4).toNat l1.toNat).toNat 2) 101 l2 = true then (some (some (.inr (.inl (am_get ω2 (am_get ω2 (am_get ω2 (am_get ω2 l0.toNat 4).toNat l1.toNat).toNat 2).toNat l2.toNat))), ω2)) else none) else (some (some (.inr (.inl 0)), ω2))) else none) else none) else none)))) else none) else none) else none)) := by
  refine Eq.trans (rr_iload_n rfl rfl) ?_
  refine Eq.trans (rr_invS2i (S' := []) (L' := [some (.inl l1)]) (m' := (140, 0)) rfl rfl rfl rfl rfl rfl) ?_
  refine bi_cg (fun z1 ω1 => ?_)
  refine Eq.trans (rr_if_eq rfl rfl) (it_cg (fun _ => ?_) (fun _ => ?_))
  · refine Eq.trans (rr_lconst rfl) ?_
    exact rr_lreturn rfl rfl
  · refine Eq.trans (rr_aload_n rfl rfl) ?_
    refine ck_it (fun h => rr_getfr rfl rfl rfl h) (fun h => rr_getfield_no rfl rfl h) (fun h1 => ?_)
    refine Eq.trans (rr_iload_n rfl rfl) ?_
    refine ck_it (fun h => rr_aaload rfl h) (fun h => rr_aaload_no rfl h) (fun h2 => ?_)
    refine ck_it (fun h => rr_invV0i (S' := []) (L' := [some (.inr (.inr (am_get ω1 (am_get ω1 l0.toNat 4).toNat l1.toNat)))]) (m' := (25, 0)) rfl rfl rfl rfl rfl rfl h) (fun h => rr_invV0_no (S' := []) (L' := [some (.inr (.inr (am_get ω1 (am_get ω1 l0.toNat 4).toNat l1.toNat)))]) (m' := (25, 0)) rfl rfl rfl rfl rfl rfl h) (fun h3 => ?_)
    refine bi_cg (fun z2 ω2 => ?_)
    refine Eq.trans (rr_if_eq rfl rfl) (it_cg (fun _ => ?_) (fun _ => ?_))
    · refine Eq.trans (rr_lconst rfl) ?_
      exact rr_lreturn rfl rfl
    · refine Eq.trans (rr_iload_n rfl rfl) ?_
      refine Eq.trans (rr_if_lt rfl rfl) (it_cg (fun _ => ?_) (fun _ => ?_))
      · refine Eq.trans (rr_lconst rfl) ?_
        exact rr_lreturn rfl rfl
      · refine Eq.trans (rr_iload_n rfl rfl) ?_
        refine Eq.trans (rr_aload_n rfl rfl) ?_
        refine ck_it (fun h => rr_getfr rfl rfl rfl h) (fun h => rr_getfield_no rfl rfl h) (fun h4 => ?_)
        refine Eq.trans (rr_iload_n rfl rfl) ?_
        refine ck_it (fun h => rr_aaload rfl h) (fun h => rr_aaload_no rfl h) (fun h5 => ?_)
        refine ck_it (fun h => rr_getfi rfl rfl rfl h) (fun h => rr_getfield_no rfl rfl h) (fun h6 => ?_)
        refine Eq.trans (rr_icmp_lt rfl rfl) (it_cg (fun _ => ?_) (fun _ => ?_))
        · refine Eq.trans (rr_aload_n rfl rfl) ?_
          refine Eq.trans (rr_getfr rfl rfl rfl h4) ?_
          refine Eq.trans (rr_iload_n rfl rfl) ?_
          refine Eq.trans (rr_aaload rfl h5) ?_
          refine Eq.trans (rr_getfr rfl rfl rfl h6) ?_
          refine Eq.trans (rr_iload_n rfl rfl) ?_
          refine ck_it (fun h => rr_laload rfl h) (fun h => rr_laload_no rfl h) (fun h7 => ?_)
          exact rr_lreturn rfl rfl
        · refine Eq.trans (rr_lconst rfl) ?_
          exact rr_lreturn rfl rfl
theorem pX6_holds_0 (l0 l1 : Int) (ω : am_W) : am_run (88, 0) 0 ([some (.inr (.inr l0)), some (.inl l1)], [], ω) = am_bi (am_run (140, 0) 0 ([some (.inl l1)], [], ω)) (fun z1 ω1 => if z1 = 0 then (some (some (.inl ((-1))), ω1)) else (if am_is ω1 l0 (6, 10) = true then (if am_ina ω1 (am_get ω1 l0.toNat 4) l1 = true then (if am_is ω1 (am_get ω1 (am_get ω1 l0.toNat 4).toNat l1.toNat) (2, 3) = true then (some (some (.inl (am_get ω1 (am_get ω1 (am_get ω1 l0.toNat 4).toNat l1.toNat).toNat 0)), ω1)) else none) else none) else none)) := by
  refine Eq.trans (rr_iload_n rfl rfl) ?_
  refine Eq.trans (rr_invS2i (S' := []) (L' := [some (.inl l1)]) (m' := (140, 0)) rfl rfl rfl rfl rfl rfl) ?_
  refine bi_cg (fun z1 ω1 => ?_)
  refine Eq.trans (rr_if_eq rfl rfl) (it_cg (fun _ => ?_) (fun _ => ?_))
  · refine Eq.trans (rr_iconst rfl rfl) ?_
    exact rr_ireturn rfl rfl
  · refine Eq.trans (rr_aload_n rfl rfl) ?_
    refine ck_it (fun h => rr_getfr rfl rfl rfl h) (fun h => rr_getfield_no rfl rfl h) (fun h1 => ?_)
    refine Eq.trans (rr_iload_n rfl rfl) ?_
    refine ck_it (fun h => rr_aaload rfl h) (fun h => rr_aaload_no rfl h) (fun h2 => ?_)
    refine ck_it (fun h => rr_getfi rfl rfl rfl h) (fun h => rr_getfield_no rfl rfl h) (fun h3 => ?_)
    refine Eq.trans (rr_goto rfl rfl) ?_
    exact rr_ireturn rfl rfl
theorem pX6_show_0 (l0 l1 l2 : Int) (ω : am_W) : am_run (89, 0) 0 ([some (.inr (.inr l0)), some (.inl l1), some (.inl l2)], [], ω) = am_bi (am_run (140, 0) 0 ([some (.inl l1)], [], ω)) (fun z1 ω1 => if z1 = 0 then (if am_is ω1 l0 (6, 10) = true then (am_bi (am_run (128, 0) 0 ([some (.inr (.inr l0)), some (.inl ((-2))), none], [], ω1)) (fun z2 ω2 => some (some (.inl z2), ω2))) else none) else (if l2 = ((-1)) then (am_run (89, 0) 30 ([some (.inr (.inr l0)), some (.inl l1), some (.inl l2)], [], ω1)) else (if am_is ω1 l0 (6, 10) = true then (if am_is ω1 (am_get ω1 l0.toNat 0) (5, 8) = true then (am_bi (am_run (58, 0) 0 ([some (.inr (.inr (am_get ω1 l0.toNat 0))), some (.inl l2)], [], ω1)) (fun z3 ω3 => if ¬ z3 = 0 then (am_run (89, 0) 30 ([some (.inr (.inr l0)), some (.inl l1), some (.inl l2)], [], ω3)) else (if am_is ω3 l0 (6, 10) = true then (am_bi (am_run (128, 0) 0 ([some (.inr (.inr l0)), some (.inl ((-2))), none], [], ω3)) (fun z4 ω4 => some (some (.inl z4), ω4))) else none))) else none) else none))) := by
  refine Eq.trans (rr_iload_n rfl rfl) ?_
  refine Eq.trans (rr_invS2i (S' := []) (L' := [some (.inl l1)]) (m' := (140, 0)) rfl rfl rfl rfl rfl rfl) ?_
  refine bi_cg (fun z1 ω1 => ?_)
  refine Eq.trans (rr_if_eq rfl rfl) (it_cg (fun _ => ?_) (fun _ => ?_))
  · refine Eq.trans (rr_aload_n rfl rfl) ?_
    refine Eq.trans (rr_bipush rfl rfl) ?_
    refine ck_it (fun h => rr_invV0i (S' := []) (L' := [some (.inr (.inr l0)), some (.inl ((-2))), none]) (m' := (128, 0)) rfl rfl rfl rfl rfl rfl h) (fun h => rr_invV0_no (S' := []) (L' := [some (.inr (.inr l0)), some (.inl ((-2))), none]) (m' := (128, 0)) rfl rfl rfl rfl rfl rfl h) (fun h1 => ?_)
    refine bi_cg (fun z2 ω2 => ?_)
    exact rr_ireturn rfl rfl
  · refine Eq.trans (rr_iload_n rfl rfl) ?_
    refine Eq.trans (rr_iconst rfl rfl) ?_
    refine Eq.trans (rr_icmp_eq rfl rfl) (it_cg (fun _ => ?_) (fun _ => ?_))
    · rfl
    · refine Eq.trans (rr_aload_n rfl rfl) ?_
      refine ck_it (fun h => rr_getfr rfl rfl rfl h) (fun h => rr_getfield_no rfl rfl h) (fun h2 => ?_)
      refine Eq.trans (rr_iload_n rfl rfl) ?_
      refine ck_it (fun h => rr_invV0i (S' := []) (L' := [some (.inr (.inr (am_get ω1 l0.toNat 0))), some (.inl l2)]) (m' := (58, 0)) rfl rfl rfl rfl rfl rfl h) (fun h => rr_invV0_no (S' := []) (L' := [some (.inr (.inr (am_get ω1 l0.toNat 0))), some (.inl l2)]) (m' := (58, 0)) rfl rfl rfl rfl rfl rfl h) (fun h3 => ?_)
      refine bi_cg (fun z3 ω3 => ?_)
      refine Eq.trans (rr_if_ne rfl rfl) (it_cg (fun _ => ?_) (fun _ => ?_))
      · rfl
      · refine Eq.trans (rr_aload_n rfl rfl) ?_
        refine Eq.trans (rr_bipush rfl rfl) ?_
        refine ck_it (fun h => rr_invV0i (S' := []) (L' := [some (.inr (.inr l0)), some (.inl ((-2))), none]) (m' := (128, 0)) rfl rfl rfl rfl rfl rfl h) (fun h => rr_invV0_no (S' := []) (L' := [some (.inr (.inr l0)), some (.inl ((-2))), none]) (m' := (128, 0)) rfl rfl rfl rfl rfl rfl h) (fun h4 => ?_)
        refine bi_cg (fun z4 ω4 => ?_)
        exact rr_ireturn rfl rfl
theorem pX6_show_30 (l0 l1 l2 : Int) (ω : am_W) (h1 : am_is ω l0 (6, 10) = true) : am_run (89, 0) 30 ([some (.inr (.inr l0)), some (.inl l1), some (.inl l2)], [], ω) = if ¬ l2 = ((-1)) then (if am_ina ω (am_get ω l0.toNat 4) l1 = true then (if am_is ω (am_get ω (am_get ω l0.toNat 4).toNat l1.toNat) (2, 3) = true then (am_bv (am_run (28, 0) 0 ([some (.inr (.inr (am_get ω (am_get ω l0.toNat 4).toNat l1.toNat))), some (.inl l2)], [], ω)) (fun ω1 => some (some (.inl 1), ω1))) else none) else none) else (if am_ina ω (am_get ω l0.toNat 4) l1 = true then (if am_is ω (am_get ω (am_get ω l0.toNat 4).toNat l1.toNat) (2, 3) = true then (am_bv (am_run (27, 0) 0 ([some (.inr (.inr (am_get ω (am_get ω l0.toNat 4).toNat l1.toNat)))], [], ω)) (fun ω2 => some (some (.inl 1), ω2))) else none) else none) := by
  refine Eq.trans (rr_iload_n rfl rfl) ?_
  refine Eq.trans (rr_iconst rfl rfl) ?_
  refine Eq.trans (rr_icmp_ne rfl rfl) (it_cg (fun _ => ?_) (fun _ => ?_))
  · refine Eq.trans (rr_aload_n rfl rfl) ?_
    refine Eq.trans (rr_getfr rfl rfl rfl h1) ?_
    refine Eq.trans (rr_iload_n rfl rfl) ?_
    refine ck_it (fun h => rr_aaload rfl h) (fun h => rr_aaload_no rfl h) (fun h2 => ?_)
    refine Eq.trans (rr_iload_n rfl rfl) ?_
    refine ck_it (fun h => rr_invV0v (S' := []) (L' := [some (.inr (.inr (am_get ω (am_get ω l0.toNat 4).toNat l1.toNat))), some (.inl l2)]) (m' := (28, 0)) rfl rfl rfl rfl rfl rfl h) (fun h => rr_invV0_no (S' := []) (L' := [some (.inr (.inr (am_get ω (am_get ω l0.toNat 4).toNat l1.toNat))), some (.inl l2)]) (m' := (28, 0)) rfl rfl rfl rfl rfl rfl h) (fun h3 => ?_)
    refine bv_cg (fun ω1 => ?_)
    refine Eq.trans (rr_iconst rfl rfl) ?_
    exact rr_ireturn rfl rfl
  · refine Eq.trans (rr_aload_n rfl rfl) ?_
    refine Eq.trans (rr_getfr rfl rfl rfl h1) ?_
    refine Eq.trans (rr_iload_n rfl rfl) ?_
    refine ck_it (fun h => rr_aaload rfl h) (fun h => rr_aaload_no rfl h) (fun h4 => ?_)
    refine ck_it (fun h => rr_invV0v (S' := []) (L' := [some (.inr (.inr (am_get ω (am_get ω l0.toNat 4).toNat l1.toNat)))]) (m' := (27, 0)) rfl rfl rfl rfl rfl rfl h) (fun h => rr_invV0_no (S' := []) (L' := [some (.inr (.inr (am_get ω (am_get ω l0.toNat 4).toNat l1.toNat)))]) (m' := (27, 0)) rfl rfl rfl rfl rfl rfl h) (fun h5 => ?_)
    refine bv_cg (fun ω2 => ?_)
    refine Eq.trans (rr_goto rfl rfl) ?_
    refine Eq.trans (rr_iconst rfl rfl) ?_
    exact rr_ireturn rfl rfl
theorem pX6_says_0 (l0 l1 l2 : Int) (ω : am_W) : am_run (90, 0) 0 ([some (.inr (.inr l0)), some (.inl l1), some (.inl l2), none, none, none], [], ω) = am_bi (am_run (140, 0) 0 ([some (.inl l1)], [], ω)) (fun z1 ω1 => if z1 = 0 then (if am_is ω1 l0 (6, 10) = true then (am_bi (am_run (128, 0) 0 ([some (.inr (.inr l0)), some (.inl ((-2))), none], [], ω1)) (fun z2 ω2 => some (some (.inl z2), ω2))) else none) else (am_bi (am_run (141, 0) 0 ([some (.inl l2)], [], ω1)) (fun z3 ω3 => if ¬ z3 = 0 then (if am_is ω3 l0 (6, 10) = true then (if am_ina ω3 (am_get ω3 l0.toNat 4) l1 = true then (if am_is ω3 (am_get ω3 (am_get ω3 l0.toNat 4).toNat l1.toNat) (2, 3) = true then (am_bi (am_run (26, 0) 0 ([some (.inr (.inr (am_get ω3 (am_get ω3 l0.toNat 4).toNat l1.toNat)))], [], ω3)) (fun z4 ω4 => if am_is ω4 l0 (6, 10) = true then (if am_is ω4 (am_get ω4 l0.toNat 0) (5, 8) = true then (am_bi (am_run (58, 0) 0 ([some (.inr (.inr (am_get ω4 l0.toNat 0))), some (.inl z4)], [], ω4)) (fun z5 ω5 => if am_is ω5 (am_get ω3 (am_get ω3 l0.toNat 4).toNat l1.toNat) (2, 3) = true then (am_bi (am_run (25, 0) 0 ([some (.inr (.inr (am_get ω3 (am_get ω3 l0.toNat 4).toNat l1.toNat)))], [], ω5)) (fun z6 ω6 => if ¬ z6 = 0 then (if am_is ω6 l0 (6, 10) = true then (am_bi (am_run (128, 0) 0 ([some (.inr (.inr l0)), some (.inl ((-3))), none], [], ω6)) (fun z7 ω7 => some (some (.inl z7), ω7))) else none) else (if z5 = 0 then (if z5 = 0 then (if am_is ω6 l0 (6, 10) = true then (am_bi (am_run (128, 0) 0 ([some (.inr (.inr l0)), some (.inl ((-4))), none], [], ω6)) (fun z8 ω8 => some (some (.inl z8), ω8))) else none) else (if am_is ω6 l0 (6, 10) = true then (am_bi (am_run (132, 0) 0 ([some (.inr (.inr l0)), some (.inl z4), some (.inl l2), none], [], ω6)) (fun z9 ω9 => some (some (.inl z9), ω9))) else none)) else (if am_is ω6 l0 (6, 10) = true then (if am_is ω6 (am_get ω6 l0.toNat 0) (5, 8) = true then (if am_ina ω6 (am_get ω6 (am_get ω6 l0.toNat 0).toNat 4) z4 = true then (if am_is ω6 (am_get ω6 (am_get ω6 (am_get ω6 l0.toNat 0).toNat 4).toNat z4.toNat) (4, 5) = true then (am_bi (am_run (49, 0) 0 ([some (.inr (.inr (am_get ω6 (am_get ω6 (am_get ω6 l0.toNat 0).toNat 4).toNat z4.toNat))), some (.inl l2)], [], ω6)) (fun z10 ω10 => if ¬ z10 = 0 then (if z5 = 0 then (if am_is ω10 l0 (6, 10) = true then (am_bi (am_run (128, 0) 0 ([some (.inr (.inr l0)), some (.inl ((-4))), none], [], ω10)) (fun z11 ω11 => some (some (.inl z11), ω11))) else none) else (if am_is ω10 l0 (6, 10) = true then (am_bi (am_run (132, 0) 0 ([some (.inr (.inr l0)), some (.inl z4), some (.inl l2), none], [], ω10)) (fun z12 ω12 => some (some (.inl z12), ω12))) else none)) else (if am_is ω10 l0 (6, 10) = true then (am_bi (am_run (128, 0) 0 ([some (.inr (.inr l0)), some (.inl ((-3))), none], [], ω10)) (fun z13 ω13 => some (some (.inl z13), ω13))) else none))) else none) else none) else none) else none)))) else none)) else none) else none)) else none) else none) else none) else (if am_is ω3 l0 (6, 10) = true then (am_bi (am_run (128, 0) 0 ([some (.inr (.inr l0)), some (.inl ((-2))), none], [], ω3)) (fun z14 ω14 => some (some (.inl z14), ω14))) else none)))) := by
  refine Eq.trans (rr_iload_n rfl rfl) ?_
  refine Eq.trans (rr_invS2i (S' := []) (L' := [some (.inl l1)]) (m' := (140, 0)) rfl rfl rfl rfl rfl rfl) ?_
  refine bi_cg (fun z1 ω1 => ?_)
  refine Eq.trans (rr_if_eq rfl rfl) (it_cg (fun _ => ?_) (fun _ => ?_))
  · refine Eq.trans (rr_aload_n rfl rfl) ?_
    refine Eq.trans (rr_bipush rfl rfl) ?_
    refine ck_it (fun h => rr_invV0i (S' := []) (L' := [some (.inr (.inr l0)), some (.inl ((-2))), none]) (m' := (128, 0)) rfl rfl rfl rfl rfl rfl h) (fun h => rr_invV0_no (S' := []) (L' := [some (.inr (.inr l0)), some (.inl ((-2))), none]) (m' := (128, 0)) rfl rfl rfl rfl rfl rfl h) (fun h1 => ?_)
    refine bi_cg (fun z2 ω2 => ?_)
    exact rr_ireturn rfl rfl
  · refine Eq.trans (rr_iload_n rfl rfl) ?_
    refine Eq.trans (rr_invS2i (S' := []) (L' := [some (.inl l2)]) (m' := (141, 0)) rfl rfl rfl rfl rfl rfl) ?_
    refine bi_cg (fun z3 ω3 => ?_)
    refine Eq.trans (rr_if_ne rfl rfl) (it_cg (fun _ => ?_) (fun _ => ?_))
    · refine Eq.trans (rr_aload_n rfl rfl) ?_
      refine ck_it (fun h => rr_getfr rfl rfl rfl h) (fun h => rr_getfield_no rfl rfl h) (fun h2 => ?_)
      refine Eq.trans (rr_iload_n rfl rfl) ?_
      refine ck_it (fun h => rr_aaload rfl h) (fun h => rr_aaload_no rfl h) (fun h3 => ?_)
      refine Eq.trans (rr_astore_n (L' := [some (.inr (.inr l0)), some (.inl l1), some (.inl l2), some (.inr (.inr (am_get ω3 (am_get ω3 l0.toNat 4).toNat l1.toNat))), none, none]) rfl rfl) ?_
      refine Eq.trans (rr_aload_n rfl rfl) ?_
      refine ck_it (fun h => rr_invV0i (S' := []) (L' := [some (.inr (.inr (am_get ω3 (am_get ω3 l0.toNat 4).toNat l1.toNat)))]) (m' := (26, 0)) rfl rfl rfl rfl rfl rfl h) (fun h => rr_invV0_no (S' := []) (L' := [some (.inr (.inr (am_get ω3 (am_get ω3 l0.toNat 4).toNat l1.toNat)))]) (m' := (26, 0)) rfl rfl rfl rfl rfl rfl h) (fun h4 => ?_)
      refine bi_cg (fun z4 ω4 => ?_)
      refine Eq.trans (rr_istore (L' := [some (.inr (.inr l0)), some (.inl l1), some (.inl l2), some (.inr (.inr (am_get ω3 (am_get ω3 l0.toNat 4).toNat l1.toNat))), some (.inl z4), none]) rfl rfl) ?_
      refine Eq.trans (rr_aload_n rfl rfl) ?_
      refine ck_it (fun h => rr_getfr rfl rfl rfl h) (fun h => rr_getfield_no rfl rfl h) (fun h5 => ?_)
      refine Eq.trans (rr_iload rfl rfl) ?_
      refine ck_it (fun h => rr_invV0i (S' := []) (L' := [some (.inr (.inr (am_get ω4 l0.toNat 0))), some (.inl z4)]) (m' := (58, 0)) rfl rfl rfl rfl rfl rfl h) (fun h => rr_invV0_no (S' := []) (L' := [some (.inr (.inr (am_get ω4 l0.toNat 0))), some (.inl z4)]) (m' := (58, 0)) rfl rfl rfl rfl rfl rfl h) (fun h6 => ?_)
      refine bi_cg (fun z5 ω5 => ?_)
      refine Eq.trans (rr_istore (L' := [some (.inr (.inr l0)), some (.inl l1), some (.inl l2), some (.inr (.inr (am_get ω3 (am_get ω3 l0.toNat 4).toNat l1.toNat))), some (.inl z4), some (.inl z5)]) rfl rfl) ?_
      refine Eq.trans (rr_aload_n rfl rfl) ?_
      refine ck_it (fun h => rr_invV0i (S' := []) (L' := [some (.inr (.inr (am_get ω3 (am_get ω3 l0.toNat 4).toNat l1.toNat)))]) (m' := (25, 0)) rfl rfl rfl rfl rfl rfl h) (fun h => rr_invV0_no (S' := []) (L' := [some (.inr (.inr (am_get ω3 (am_get ω3 l0.toNat 4).toNat l1.toNat)))]) (m' := (25, 0)) rfl rfl rfl rfl rfl rfl h) (fun h7 => ?_)
      refine bi_cg (fun z6 ω6 => ?_)
      refine Eq.trans (rr_if_ne rfl rfl) (it_cg (fun _ => ?_) (fun _ => ?_))
      · refine Eq.trans (rr_aload_n rfl rfl) ?_
        refine Eq.trans (rr_bipush rfl rfl) ?_
        refine ck_it (fun h => rr_invV0i (S' := []) (L' := [some (.inr (.inr l0)), some (.inl ((-3))), none]) (m' := (128, 0)) rfl rfl rfl rfl rfl rfl h) (fun h => rr_invV0_no (S' := []) (L' := [some (.inr (.inr l0)), some (.inl ((-3))), none]) (m' := (128, 0)) rfl rfl rfl rfl rfl rfl h) (fun h8 => ?_)
        refine bi_cg (fun z7 ω7 => ?_)
        exact rr_ireturn rfl rfl
      · refine Eq.trans (rr_iload rfl rfl) ?_
        refine Eq.trans (rr_if_eq rfl rfl) (it_cg (fun _ => ?_) (fun _ => ?_))
        · refine Eq.trans (rr_iload rfl rfl) ?_
          refine Eq.trans (rr_if_eq rfl rfl) (it_cg (fun _ => ?_) (fun _ => ?_))
          · refine Eq.trans (rr_aload_n rfl rfl) ?_
            refine Eq.trans (rr_bipush rfl rfl) ?_
            refine ck_it (fun h => rr_invV0i (S' := []) (L' := [some (.inr (.inr l0)), some (.inl ((-4))), none]) (m' := (128, 0)) rfl rfl rfl rfl rfl rfl h) (fun h => rr_invV0_no (S' := []) (L' := [some (.inr (.inr l0)), some (.inl ((-4))), none]) (m' := (128, 0)) rfl rfl rfl rfl rfl rfl h) (fun h9 => ?_)
            refine bi_cg (fun z8 ω8 => ?_)
            exact rr_ireturn rfl rfl
          · refine Eq.trans (rr_aload_n rfl rfl) ?_
            refine Eq.trans (rr_iload rfl rfl) ?_
            refine Eq.trans (rr_iload_n rfl rfl) ?_
            refine ck_it (fun h => rr_invV0i (S' := []) (L' := [some (.inr (.inr l0)), some (.inl z4), some (.inl l2), none]) (m' := (132, 0)) rfl rfl rfl rfl rfl rfl h) (fun h => rr_invV0_no (S' := []) (L' := [some (.inr (.inr l0)), some (.inl z4), some (.inl l2), none]) (m' := (132, 0)) rfl rfl rfl rfl rfl rfl h) (fun h10 => ?_)
            refine bi_cg (fun z9 ω9 => ?_)
            refine Eq.trans (rr_goto rfl rfl) ?_
            exact rr_ireturn rfl rfl
        · refine Eq.trans (rr_aload_n rfl rfl) ?_
          refine ck_it (fun h => rr_getfr rfl rfl rfl h) (fun h => rr_getfield_no rfl rfl h) (fun h11 => ?_)
          refine ck_it (fun h => rr_getfr rfl rfl rfl h) (fun h => rr_getfield_no rfl rfl h) (fun h12 => ?_)
          refine Eq.trans (rr_iload rfl rfl) ?_
          refine ck_it (fun h => rr_aaload rfl h) (fun h => rr_aaload_no rfl h) (fun h13 => ?_)
          refine Eq.trans (rr_iload_n rfl rfl) ?_
          refine ck_it (fun h => rr_invV0i (S' := []) (L' := [some (.inr (.inr (am_get ω6 (am_get ω6 (am_get ω6 l0.toNat 0).toNat 4).toNat z4.toNat))), some (.inl l2)]) (m' := (49, 0)) rfl rfl rfl rfl rfl rfl h) (fun h => rr_invV0_no (S' := []) (L' := [some (.inr (.inr (am_get ω6 (am_get ω6 (am_get ω6 l0.toNat 0).toNat 4).toNat z4.toNat))), some (.inl l2)]) (m' := (49, 0)) rfl rfl rfl rfl rfl rfl h) (fun h14 => ?_)
          refine bi_cg (fun z10 ω10 => ?_)
          refine Eq.trans (rr_if_ne rfl rfl) (it_cg (fun _ => ?_) (fun _ => ?_))
          · refine Eq.trans (rr_iload rfl rfl) ?_
            refine Eq.trans (rr_if_eq rfl rfl) (it_cg (fun _ => ?_) (fun _ => ?_))
            · refine Eq.trans (rr_aload_n rfl rfl) ?_
              refine Eq.trans (rr_bipush rfl rfl) ?_
              refine ck_it (fun h => rr_invV0i (S' := []) (L' := [some (.inr (.inr l0)), some (.inl ((-4))), none]) (m' := (128, 0)) rfl rfl rfl rfl rfl rfl h) (fun h => rr_invV0_no (S' := []) (L' := [some (.inr (.inr l0)), some (.inl ((-4))), none]) (m' := (128, 0)) rfl rfl rfl rfl rfl rfl h) (fun h15 => ?_)
              refine bi_cg (fun z11 ω11 => ?_)
              exact rr_ireturn rfl rfl
            · refine Eq.trans (rr_aload_n rfl rfl) ?_
              refine Eq.trans (rr_iload rfl rfl) ?_
              refine Eq.trans (rr_iload_n rfl rfl) ?_
              refine ck_it (fun h => rr_invV0i (S' := []) (L' := [some (.inr (.inr l0)), some (.inl z4), some (.inl l2), none]) (m' := (132, 0)) rfl rfl rfl rfl rfl rfl h) (fun h => rr_invV0_no (S' := []) (L' := [some (.inr (.inr l0)), some (.inl z4), some (.inl l2), none]) (m' := (132, 0)) rfl rfl rfl rfl rfl rfl h) (fun h16 => ?_)
              refine bi_cg (fun z12 ω12 => ?_)
              refine Eq.trans (rr_goto rfl rfl) ?_
              exact rr_ireturn rfl rfl
          · refine Eq.trans (rr_aload_n rfl rfl) ?_
            refine Eq.trans (rr_bipush rfl rfl) ?_
            refine ck_it (fun h => rr_invV0i (S' := []) (L' := [some (.inr (.inr l0)), some (.inl ((-3))), none]) (m' := (128, 0)) rfl rfl rfl rfl rfl rfl h) (fun h => rr_invV0_no (S' := []) (L' := [some (.inr (.inr l0)), some (.inl ((-3))), none]) (m' := (128, 0)) rfl rfl rfl rfl rfl rfl h) (fun h17 => ?_)
            refine bi_cg (fun z13 ω13 => ?_)
            exact rr_ireturn rfl rfl
    · refine Eq.trans (rr_aload_n rfl rfl) ?_
      refine Eq.trans (rr_bipush rfl rfl) ?_
      refine ck_it (fun h => rr_invV0i (S' := []) (L' := [some (.inr (.inr l0)), some (.inl ((-2))), none]) (m' := (128, 0)) rfl rfl rfl rfl rfl rfl h) (fun h => rr_invV0_no (S' := []) (L' := [some (.inr (.inr l0)), some (.inl ((-2))), none]) (m' := (128, 0)) rfl rfl rfl rfl rfl rfl h) (fun h18 => ?_)
      refine bi_cg (fun z14 ω14 => ?_)
      exact rr_ireturn rfl rfl
theorem pX6_circles_0 (l0 l1 : Int) (ω : am_W) (h1 : am_is ω l0 (6, 10) = true) (h2 : am_is ω (am_get ω l0.toNat 0) (5, 8) = true) : am_run (91, 0) 0 ([some (.inr (.inr l0)), some (.inl l1), none], [], ω) = if l1 < 2 then (am_bi (am_run (128, 0) 0 ([some (.inr (.inr l0)), some (.inl ((-2))), none], [], ω)) (fun z1 ω1 => some (some (.inl z1), ω1))) else (if l1 ≤ 6 then (if (am_get ω (am_get ω l0.toNat 0).toNat 3) ≤ 0 then (some (some (.inl (am_get ω (am_get ω l0.toNat 0).toNat 0)), am_put ω (am_get ω l0.toNat 0).toNat 0 l1)) else (am_bi (am_run (128, 0) 0 ([some (.inr (.inr l0)), some (.inl ((-5))), none], [], ω)) (fun z2 ω2 => some (some (.inl z2), ω2)))) else (am_bi (am_run (128, 0) 0 ([some (.inr (.inr l0)), some (.inl ((-2))), none], [], ω)) (fun z3 ω3 => some (some (.inl z3), ω3)))) := by
  refine Eq.trans (rr_iload_n rfl rfl) ?_
  refine Eq.trans (rr_iconst rfl rfl) ?_
  refine Eq.trans (rr_icmp_lt rfl rfl) (it_cg (fun _ => ?_) (fun _ => ?_))
  · refine Eq.trans (rr_aload_n rfl rfl) ?_
    refine Eq.trans (rr_bipush rfl rfl) ?_
    refine Eq.trans (rr_invV0i (S' := []) (L' := [some (.inr (.inr l0)), some (.inl ((-2))), none]) (m' := (128, 0)) rfl rfl rfl rfl rfl rfl h1) ?_
    refine bi_cg (fun z1 ω1 => ?_)
    exact rr_ireturn rfl rfl
  · refine Eq.trans (rr_iload_n rfl rfl) ?_
    refine Eq.trans (rr_bipush rfl rfl) ?_
    refine Eq.trans (rr_icmp_le rfl rfl) (it_cg (fun _ => ?_) (fun _ => ?_))
    · refine Eq.trans (rr_aload_n rfl rfl) ?_
      refine Eq.trans (rr_getfr rfl rfl rfl h1) ?_
      refine Eq.trans (rr_getfi rfl rfl rfl h2) ?_
      refine Eq.trans (rr_if_le rfl rfl) (it_cg (fun _ => ?_) (fun _ => ?_))
      · refine Eq.trans (rr_aload_n rfl rfl) ?_
        refine Eq.trans (rr_getfr rfl rfl rfl h1) ?_
        refine Eq.trans (rr_getfi rfl rfl rfl h2) ?_
        refine Eq.trans (rr_istore_n (L' := [some (.inr (.inr l0)), some (.inl l1), some (.inl (am_get ω (am_get ω l0.toNat 0).toNat 0))]) rfl rfl) ?_
        refine Eq.trans (rr_aload_n rfl rfl) ?_
        refine Eq.trans (rr_getfr rfl rfl rfl h1) ?_
        refine Eq.trans (rr_iload_n rfl rfl) ?_
        refine Eq.trans (rr_putfieldi rfl rfl rfl h2) ?_
        refine Eq.trans (rr_iload_n rfl rfl) ?_
        exact rr_ireturn rfl rfl
      · refine Eq.trans (rr_aload_n rfl rfl) ?_
        refine Eq.trans (rr_bipush rfl rfl) ?_
        refine Eq.trans (rr_invV0i (S' := []) (L' := [some (.inr (.inr l0)), some (.inl ((-5))), none]) (m' := (128, 0)) rfl rfl rfl rfl rfl rfl h1) ?_
        refine bi_cg (fun z2 ω2 => ?_)
        exact rr_ireturn rfl rfl
    · refine Eq.trans (rr_aload_n rfl rfl) ?_
      refine Eq.trans (rr_bipush rfl rfl) ?_
      refine Eq.trans (rr_invV0i (S' := []) (L' := [some (.inr (.inr l0)), some (.inl ((-2))), none]) (m' := (128, 0)) rfl rfl rfl rfl rfl rfl h1) ?_
      refine bi_cg (fun z3 ω3 => ?_)
      exact rr_ireturn rfl rfl
theorem pX6_time_0 (l0 l1 l2 : Int) (ω : am_W) (h1 : am_is ω l0 (6, 10) = true) (h2 : am_is ω (am_get ω l0.toNat 0) (5, 8) = true) : am_run (92, 0) 0 ([some (.inr (.inr l0)), some (.inl l1), some (.inl l2), none], [], ω) = am_bi (am_run (54, 0) 0 ([some (.inr (.inr (am_get ω l0.toNat 0))), some (.inl l1)], [], ω)) (fun z1 ω1 => if z1 = 0 then (if am_is ω1 l0 (6, 10) = true then (am_bi (am_run (128, 0) 0 ([some (.inr (.inr l0)), some (.inl ((-2))), none], [], ω1)) (fun z2 ω2 => some (some (.inl z2), ω2))) else none) else (if l2 < 2 then (if am_is ω1 l0 (6, 10) = true then (am_bi (am_run (128, 0) 0 ([some (.inr (.inr l0)), some (.inl ((-2))), none], [], ω1)) (fun z3 ω3 => some (some (.inl z3), ω3))) else none) else (if l2 ≤ 20 then (if am_is ω1 l0 (6, 10) = true then (if am_is ω1 (am_get ω1 l0.toNat 0) (5, 8) = true then (am_bi (am_run (64, 0) 0 ([some (.inr (.inr (am_get ω1 l0.toNat 0))), some (.inl l1), none, none], [], ω1)) (fun z4 ω4 => if z4 = 0 then (if am_is ω4 l0 (6, 10) = true then (if am_is ω4 (am_get ω4 l0.toNat 0) (5, 8) = true then (if am_in ω4 (am_get ω4 (am_get ω4 l0.toNat 0).toNat 1) 100 l1 = true then (some (some (.inl (am_get ω4 (am_get ω4 (am_get ω4 l0.toNat 0).toNat 1).toNat l1.toNat)), am_put ω4 (am_get ω4 (am_get ω4 l0.toNat 0).toNat 1).toNat l1.toNat l2)) else none) else none) else none) else (if am_is ω4 l0 (6, 10) = true then (am_bi (am_run (128, 0) 0 ([some (.inr (.inr l0)), some (.inl ((-5))), none], [], ω4)) (fun z5 ω5 => some (some (.inl z5), ω5))) else none))) else none) else none) else (if am_is ω1 l0 (6, 10) = true then (am_bi (am_run (128, 0) 0 ([some (.inr (.inr l0)), some (.inl ((-2))), none], [], ω1)) (fun z6 ω6 => some (some (.inl z6), ω6))) else none)))) := by
  refine Eq.trans (rr_aload_n rfl rfl) ?_
  refine Eq.trans (rr_getfr rfl rfl rfl h1) ?_
  refine Eq.trans (rr_iload_n rfl rfl) ?_
  refine Eq.trans (rr_invV0i (S' := []) (L' := [some (.inr (.inr (am_get ω l0.toNat 0))), some (.inl l1)]) (m' := (54, 0)) rfl rfl rfl rfl rfl rfl h2) ?_
  refine bi_cg (fun z1 ω1 => ?_)
  refine Eq.trans (rr_if_eq rfl rfl) (it_cg (fun _ => ?_) (fun _ => ?_))
  · refine Eq.trans (rr_aload_n rfl rfl) ?_
    refine Eq.trans (rr_bipush rfl rfl) ?_
    refine ck_it (fun h => rr_invV0i (S' := []) (L' := [some (.inr (.inr l0)), some (.inl ((-2))), none]) (m' := (128, 0)) rfl rfl rfl rfl rfl rfl h) (fun h => rr_invV0_no (S' := []) (L' := [some (.inr (.inr l0)), some (.inl ((-2))), none]) (m' := (128, 0)) rfl rfl rfl rfl rfl rfl h) (fun h3 => ?_)
    refine bi_cg (fun z2 ω2 => ?_)
    exact rr_ireturn rfl rfl
  · refine Eq.trans (rr_iload_n rfl rfl) ?_
    refine Eq.trans (rr_iconst rfl rfl) ?_
    refine Eq.trans (rr_icmp_lt rfl rfl) (it_cg (fun _ => ?_) (fun _ => ?_))
    · refine Eq.trans (rr_aload_n rfl rfl) ?_
      refine Eq.trans (rr_bipush rfl rfl) ?_
      refine ck_it (fun h => rr_invV0i (S' := []) (L' := [some (.inr (.inr l0)), some (.inl ((-2))), none]) (m' := (128, 0)) rfl rfl rfl rfl rfl rfl h) (fun h => rr_invV0_no (S' := []) (L' := [some (.inr (.inr l0)), some (.inl ((-2))), none]) (m' := (128, 0)) rfl rfl rfl rfl rfl rfl h) (fun h4 => ?_)
      refine bi_cg (fun z3 ω3 => ?_)
      exact rr_ireturn rfl rfl
    · refine Eq.trans (rr_iload_n rfl rfl) ?_
      refine Eq.trans (rr_bipush rfl rfl) ?_
      refine Eq.trans (rr_icmp_le rfl rfl) (it_cg (fun _ => ?_) (fun _ => ?_))
      · refine Eq.trans (rr_aload_n rfl rfl) ?_
        refine ck_it (fun h => rr_getfr rfl rfl rfl h) (fun h => rr_getfield_no rfl rfl h) (fun h5 => ?_)
        refine Eq.trans (rr_iload_n rfl rfl) ?_
        refine ck_it (fun h => rr_invV0i (S' := []) (L' := [some (.inr (.inr (am_get ω1 l0.toNat 0))), some (.inl l1), none, none]) (m' := (64, 0)) rfl rfl rfl rfl rfl rfl h) (fun h => rr_invV0_no (S' := []) (L' := [some (.inr (.inr (am_get ω1 l0.toNat 0))), some (.inl l1), none, none]) (m' := (64, 0)) rfl rfl rfl rfl rfl rfl h) (fun h6 => ?_)
        refine bi_cg (fun z4 ω4 => ?_)
        refine Eq.trans (rr_if_eq rfl rfl) (it_cg (fun _ => ?_) (fun _ => ?_))
        · refine Eq.trans (rr_aload_n rfl rfl) ?_
          refine ck_it (fun h => rr_getfr rfl rfl rfl h) (fun h => rr_getfield_no rfl rfl h) (fun h7 => ?_)
          refine ck_it (fun h => rr_getfr rfl rfl rfl h) (fun h => rr_getfield_no rfl rfl h) (fun h8 => ?_)
          refine Eq.trans (rr_iload_n rfl rfl) ?_
          refine ck_it (fun h => rr_iaload rfl rfl h) (fun h => rr_iaload_no rfl rfl h) (fun h9 => ?_)
          refine Eq.trans (rr_istore_n (L' := [some (.inr (.inr l0)), some (.inl l1), some (.inl l2), some (.inl (am_get ω4 (am_get ω4 (am_get ω4 l0.toNat 0).toNat 1).toNat l1.toNat))]) rfl rfl) ?_
          refine Eq.trans (rr_aload_n rfl rfl) ?_
          refine Eq.trans (rr_getfr rfl rfl rfl h7) ?_
          refine Eq.trans (rr_getfr rfl rfl rfl h8) ?_
          refine Eq.trans (rr_iload_n rfl rfl) ?_
          refine Eq.trans (rr_iload_n rfl rfl) ?_
          refine Eq.trans (rr_iastore rfl h9) ?_
          refine Eq.trans (rr_iload_n rfl rfl) ?_
          exact rr_ireturn rfl rfl
        · refine Eq.trans (rr_aload_n rfl rfl) ?_
          refine Eq.trans (rr_bipush rfl rfl) ?_
          refine ck_it (fun h => rr_invV0i (S' := []) (L' := [some (.inr (.inr l0)), some (.inl ((-5))), none]) (m' := (128, 0)) rfl rfl rfl rfl rfl rfl h) (fun h => rr_invV0_no (S' := []) (L' := [some (.inr (.inr l0)), some (.inl ((-5))), none]) (m' := (128, 0)) rfl rfl rfl rfl rfl rfl h) (fun h10 => ?_)
          refine bi_cg (fun z5 ω5 => ?_)
          exact rr_ireturn rfl rfl
      · refine Eq.trans (rr_aload_n rfl rfl) ?_
        refine Eq.trans (rr_bipush rfl rfl) ?_
        refine ck_it (fun h => rr_invV0i (S' := []) (L' := [some (.inr (.inr l0)), some (.inl ((-2))), none]) (m' := (128, 0)) rfl rfl rfl rfl rfl rfl h) (fun h => rr_invV0_no (S' := []) (L' := [some (.inr (.inr l0)), some (.inl ((-2))), none]) (m' := (128, 0)) rfl rfl rfl rfl rfl rfl h) (fun h11 => ?_)
        refine bi_cg (fun z6 ω6 => ?_)
        exact rr_ireturn rfl rfl
theorem pX6_cost_0 (l0 l1 l2 : Int) (ω : am_W) (h1 : am_is ω l0 (6, 10) = true) (h2 : am_is ω (am_get ω l0.toNat 0) (5, 8) = true) : am_run (93, 0) 0 ([some (.inr (.inr l0)), some (.inl l1), some (.inl l2), none], [], ω) = am_bi (am_run (55, 0) 0 ([some (.inr (.inr (am_get ω l0.toNat 0))), some (.inl l1)], [], ω)) (fun z1 ω1 => if z1 = 0 then (if am_is ω1 l0 (6, 10) = true then (am_bi (am_run (128, 0) 0 ([some (.inr (.inr l0)), some (.inl ((-2))), none], [], ω1)) (fun z2 ω2 => some (some (.inl z2), ω2))) else none) else (if l2 < 1 then (if am_is ω1 l0 (6, 10) = true then (am_bi (am_run (128, 0) 0 ([some (.inr (.inr l0)), some (.inl ((-2))), none], [], ω1)) (fun z3 ω3 => some (some (.inl z3), ω3))) else none) else (if l2 ≤ 9 then (if am_is ω1 l0 (6, 10) = true then (if am_is ω1 (am_get ω1 l0.toNat 0) (5, 8) = true then (if am_in ω1 (am_get ω1 (am_get ω1 l0.toNat 0).toNat 2) 100 l1 = true then (some (some (.inl (am_get ω1 (am_get ω1 (am_get ω1 l0.toNat 0).toNat 2).toNat l1.toNat)), am_put ω1 (am_get ω1 (am_get ω1 l0.toNat 0).toNat 2).toNat l1.toNat l2)) else none) else none) else none) else (if am_is ω1 l0 (6, 10) = true then (am_bi (am_run (128, 0) 0 ([some (.inr (.inr l0)), some (.inl ((-2))), none], [], ω1)) (fun z4 ω4 => some (some (.inl z4), ω4))) else none)))) := by
  refine Eq.trans (rr_aload_n rfl rfl) ?_
  refine Eq.trans (rr_getfr rfl rfl rfl h1) ?_
  refine Eq.trans (rr_iload_n rfl rfl) ?_
  refine Eq.trans (rr_invV0i (S' := []) (L' := [some (.inr (.inr (am_get ω l0.toNat 0))), some (.inl l1)]) (m' := (55, 0)) rfl rfl rfl rfl rfl rfl h2) ?_
  refine bi_cg (fun z1 ω1 => ?_)
  refine Eq.trans (rr_if_eq rfl rfl) (it_cg (fun _ => ?_) (fun _ => ?_))
  · refine Eq.trans (rr_aload_n rfl rfl) ?_
    refine Eq.trans (rr_bipush rfl rfl) ?_
    refine ck_it (fun h => rr_invV0i (S' := []) (L' := [some (.inr (.inr l0)), some (.inl ((-2))), none]) (m' := (128, 0)) rfl rfl rfl rfl rfl rfl h) (fun h => rr_invV0_no (S' := []) (L' := [some (.inr (.inr l0)), some (.inl ((-2))), none]) (m' := (128, 0)) rfl rfl rfl rfl rfl rfl h) (fun h3 => ?_)
    refine bi_cg (fun z2 ω2 => ?_)
    exact rr_ireturn rfl rfl
  · refine Eq.trans (rr_iload_n rfl rfl) ?_
    refine Eq.trans (rr_iconst rfl rfl) ?_
    refine Eq.trans (rr_icmp_lt rfl rfl) (it_cg (fun _ => ?_) (fun _ => ?_))
    · refine Eq.trans (rr_aload_n rfl rfl) ?_
      refine Eq.trans (rr_bipush rfl rfl) ?_
      refine ck_it (fun h => rr_invV0i (S' := []) (L' := [some (.inr (.inr l0)), some (.inl ((-2))), none]) (m' := (128, 0)) rfl rfl rfl rfl rfl rfl h) (fun h => rr_invV0_no (S' := []) (L' := [some (.inr (.inr l0)), some (.inl ((-2))), none]) (m' := (128, 0)) rfl rfl rfl rfl rfl rfl h) (fun h4 => ?_)
      refine bi_cg (fun z3 ω3 => ?_)
      exact rr_ireturn rfl rfl
    · refine Eq.trans (rr_iload_n rfl rfl) ?_
      refine Eq.trans (rr_bipush rfl rfl) ?_
      refine Eq.trans (rr_icmp_le rfl rfl) (it_cg (fun _ => ?_) (fun _ => ?_))
      · refine Eq.trans (rr_aload_n rfl rfl) ?_
        refine ck_it (fun h => rr_getfr rfl rfl rfl h) (fun h => rr_getfield_no rfl rfl h) (fun h5 => ?_)
        refine ck_it (fun h => rr_getfr rfl rfl rfl h) (fun h => rr_getfield_no rfl rfl h) (fun h6 => ?_)
        refine Eq.trans (rr_iload_n rfl rfl) ?_
        refine ck_it (fun h => rr_iaload rfl rfl h) (fun h => rr_iaload_no rfl rfl h) (fun h7 => ?_)
        refine Eq.trans (rr_istore_n (L' := [some (.inr (.inr l0)), some (.inl l1), some (.inl l2), some (.inl (am_get ω1 (am_get ω1 (am_get ω1 l0.toNat 0).toNat 2).toNat l1.toNat))]) rfl rfl) ?_
        refine Eq.trans (rr_aload_n rfl rfl) ?_
        refine Eq.trans (rr_getfr rfl rfl rfl h5) ?_
        refine Eq.trans (rr_getfr rfl rfl rfl h6) ?_
        refine Eq.trans (rr_iload_n rfl rfl) ?_
        refine Eq.trans (rr_iload_n rfl rfl) ?_
        refine Eq.trans (rr_iastore rfl h7) ?_
        refine Eq.trans (rr_iload_n rfl rfl) ?_
        exact rr_ireturn rfl rfl
      · refine Eq.trans (rr_aload_n rfl rfl) ?_
        refine Eq.trans (rr_bipush rfl rfl) ?_
        refine ck_it (fun h => rr_invV0i (S' := []) (L' := [some (.inr (.inr l0)), some (.inl ((-2))), none]) (m' := (128, 0)) rfl rfl rfl rfl rfl rfl h) (fun h => rr_invV0_no (S' := []) (L' := [some (.inr (.inr l0)), some (.inl ((-2))), none]) (m' := (128, 0)) rfl rfl rfl rfl rfl rfl h) (fun h8 => ?_)
        refine bi_cg (fun z4 ω4 => ?_)
        exact rr_ireturn rfl rfl
theorem pX6_ship_0 (l0 l1 l2 l3 l4 : Int) (ω : am_W) : am_run (94, 0) 0 ([some (.inr (.inr l0)), some (.inl l1), some (.inl l2), some (.inl l3), some (.inl l4)], [], ω) = am_bi (am_run (141, 0) 0 ([some (.inl l1)], [], ω)) (fun z1 ω1 => if z1 = 0 then (if am_is ω1 l0 (6, 10) = true then (am_bi (am_run (128, 0) 0 ([some (.inr (.inr l0)), some (.inl ((-2))), none], [], ω1)) (fun z2 ω2 => some (some (.inl z2), ω2))) else none) else (if am_is ω1 l0 (6, 10) = true then (if am_is ω1 (am_get ω1 l0.toNat 0) (5, 8) = true then (am_bi (am_run (57, 0) 0 ([some (.inr (.inr (am_get ω1 l0.toNat 0))), some (.inl l2), some (.inl l3)], [], ω1)) (fun z3 ω3 => if z3 = 0 then (if am_is ω3 l0 (6, 10) = true then (am_bi (am_run (128, 0) 0 ([some (.inr (.inr l0)), some (.inl ((-2))), none], [], ω3)) (fun z4 ω4 => some (some (.inl z4), ω4))) else none) else (am_bi (am_run (143, 0) 0 ([some (.inl l4)], [], ω3)) (fun z5 ω5 => if ¬ z5 = 0 then (if am_is ω5 l0 (6, 10) = true then (if am_is ω5 (am_get ω5 l0.toNat 0) (5, 8) = true then (am_bi (am_run (60, 0) 0 ([some (.inr (.inr (am_get ω5 l0.toNat 0)))], [], ω5)) (fun z6 ω6 => if z6 = 0 then (if am_is ω6 l0 (6, 10) = true then (if am_is ω6 (am_get ω6 l0.toNat 0) (5, 8) = true then (am_bi (am_run (63, 0) 0 ([some (.inr (.inr (am_get ω6 l0.toNat 0))), some (.inl l1), some (.inl l2), some (.inl l3), some (.inl l4), none], [], ω6)) (fun z7 ω7 => some (some (.inl z7), ω7))) else none) else none) else (if am_is ω6 l0 (6, 10) = true then (am_bi (am_run (128, 0) 0 ([some (.inr (.inr l0)), some (.inl ((-6))), none], [], ω6)) (fun z8 ω8 => some (some (.inl z8), ω8))) else none))) else none) else none) else (if am_is ω5 l0 (6, 10) = true then (am_bi (am_run (128, 0) 0 ([some (.inr (.inr l0)), some (.inl ((-2))), none], [], ω5)) (fun z9 ω9 => some (some (.inl z9), ω9))) else none))))) else none) else none)) := by
  refine Eq.trans (rr_iload_n rfl rfl) ?_
  refine Eq.trans (rr_invS2i (S' := []) (L' := [some (.inl l1)]) (m' := (141, 0)) rfl rfl rfl rfl rfl rfl) ?_
  refine bi_cg (fun z1 ω1 => ?_)
  refine Eq.trans (rr_if_eq rfl rfl) (it_cg (fun _ => ?_) (fun _ => ?_))
  · refine Eq.trans (rr_aload_n rfl rfl) ?_
    refine Eq.trans (rr_bipush rfl rfl) ?_
    refine ck_it (fun h => rr_invV0i (S' := []) (L' := [some (.inr (.inr l0)), some (.inl ((-2))), none]) (m' := (128, 0)) rfl rfl rfl rfl rfl rfl h) (fun h => rr_invV0_no (S' := []) (L' := [some (.inr (.inr l0)), some (.inl ((-2))), none]) (m' := (128, 0)) rfl rfl rfl rfl rfl rfl h) (fun h1 => ?_)
    refine bi_cg (fun z2 ω2 => ?_)
    exact rr_ireturn rfl rfl
  · refine Eq.trans (rr_aload_n rfl rfl) ?_
    refine ck_it (fun h => rr_getfr rfl rfl rfl h) (fun h => rr_getfield_no rfl rfl h) (fun h2 => ?_)
    refine Eq.trans (rr_iload_n rfl rfl) ?_
    refine Eq.trans (rr_iload_n rfl rfl) ?_
    refine ck_it (fun h => rr_invV0i (S' := []) (L' := [some (.inr (.inr (am_get ω1 l0.toNat 0))), some (.inl l2), some (.inl l3)]) (m' := (57, 0)) rfl rfl rfl rfl rfl rfl h) (fun h => rr_invV0_no (S' := []) (L' := [some (.inr (.inr (am_get ω1 l0.toNat 0))), some (.inl l2), some (.inl l3)]) (m' := (57, 0)) rfl rfl rfl rfl rfl rfl h) (fun h3 => ?_)
    refine bi_cg (fun z3 ω3 => ?_)
    refine Eq.trans (rr_if_eq rfl rfl) (it_cg (fun _ => ?_) (fun _ => ?_))
    · refine Eq.trans (rr_aload_n rfl rfl) ?_
      refine Eq.trans (rr_bipush rfl rfl) ?_
      refine ck_it (fun h => rr_invV0i (S' := []) (L' := [some (.inr (.inr l0)), some (.inl ((-2))), none]) (m' := (128, 0)) rfl rfl rfl rfl rfl rfl h) (fun h => rr_invV0_no (S' := []) (L' := [some (.inr (.inr l0)), some (.inl ((-2))), none]) (m' := (128, 0)) rfl rfl rfl rfl rfl rfl h) (fun h4 => ?_)
      refine bi_cg (fun z4 ω4 => ?_)
      exact rr_ireturn rfl rfl
    · refine Eq.trans (rr_iload rfl rfl) ?_
      refine Eq.trans (rr_invS2i (S' := []) (L' := [some (.inl l4)]) (m' := (143, 0)) rfl rfl rfl rfl rfl rfl) ?_
      refine bi_cg (fun z5 ω5 => ?_)
      refine Eq.trans (rr_if_ne rfl rfl) (it_cg (fun _ => ?_) (fun _ => ?_))
      · refine Eq.trans (rr_aload_n rfl rfl) ?_
        refine ck_it (fun h => rr_getfr rfl rfl rfl h) (fun h => rr_getfield_no rfl rfl h) (fun h5 => ?_)
        refine ck_it (fun h => rr_invV0i (S' := []) (L' := [some (.inr (.inr (am_get ω5 l0.toNat 0)))]) (m' := (60, 0)) rfl rfl rfl rfl rfl rfl h) (fun h => rr_invV0_no (S' := []) (L' := [some (.inr (.inr (am_get ω5 l0.toNat 0)))]) (m' := (60, 0)) rfl rfl rfl rfl rfl rfl h) (fun h6 => ?_)
        refine bi_cg (fun z6 ω6 => ?_)
        refine Eq.trans (rr_if_eq rfl rfl) (it_cg (fun _ => ?_) (fun _ => ?_))
        · refine Eq.trans (rr_aload_n rfl rfl) ?_
          refine ck_it (fun h => rr_getfr rfl rfl rfl h) (fun h => rr_getfield_no rfl rfl h) (fun h7 => ?_)
          refine Eq.trans (rr_iload_n rfl rfl) ?_
          refine Eq.trans (rr_iload_n rfl rfl) ?_
          refine Eq.trans (rr_iload_n rfl rfl) ?_
          refine Eq.trans (rr_iload rfl rfl) ?_
          refine ck_it (fun h => rr_invV0i (S' := []) (L' := [some (.inr (.inr (am_get ω6 l0.toNat 0))), some (.inl l1), some (.inl l2), some (.inl l3), some (.inl l4), none]) (m' := (63, 0)) rfl rfl rfl rfl rfl rfl h) (fun h => rr_invV0_no (S' := []) (L' := [some (.inr (.inr (am_get ω6 l0.toNat 0))), some (.inl l1), some (.inl l2), some (.inl l3), some (.inl l4), none]) (m' := (63, 0)) rfl rfl rfl rfl rfl rfl h) (fun h8 => ?_)
          refine bi_cg (fun z7 ω7 => ?_)
          exact rr_ireturn rfl rfl
        · refine Eq.trans (rr_aload_n rfl rfl) ?_
          refine Eq.trans (rr_bipush rfl rfl) ?_
          refine ck_it (fun h => rr_invV0i (S' := []) (L' := [some (.inr (.inr l0)), some (.inl ((-6))), none]) (m' := (128, 0)) rfl rfl rfl rfl rfl rfl h) (fun h => rr_invV0_no (S' := []) (L' := [some (.inr (.inr l0)), some (.inl ((-6))), none]) (m' := (128, 0)) rfl rfl rfl rfl rfl rfl h) (fun h9 => ?_)
          refine bi_cg (fun z8 ω8 => ?_)
          exact rr_ireturn rfl rfl
      · refine Eq.trans (rr_aload_n rfl rfl) ?_
        refine Eq.trans (rr_bipush rfl rfl) ?_
        refine ck_it (fun h => rr_invV0i (S' := []) (L' := [some (.inr (.inr l0)), some (.inl ((-2))), none]) (m' := (128, 0)) rfl rfl rfl rfl rfl rfl h) (fun h => rr_invV0_no (S' := []) (L' := [some (.inr (.inr l0)), some (.inl ((-2))), none]) (m' := (128, 0)) rfl rfl rfl rfl rfl rfl h) (fun h10 => ?_)
        refine bi_cg (fun z9 ω9 => ?_)
        exact rr_ireturn rfl rfl
theorem pX6_fill_0 (l0 l1 l2 : Int) (ω : am_W) (h1 : am_is ω l0 (6, 10) = true) (h2 : am_is ω (am_get ω l0.toNat 0) (5, 8) = true) : am_run (95, 0) 0 ([some (.inr (.inr l0)), some (.inl l1), some (.inl l2), none], [], ω) = am_bi (am_run (58, 0) 0 ([some (.inr (.inr (am_get ω l0.toNat 0))), some (.inl l1)], [], ω)) (fun z1 ω1 => if z1 = 0 then (if am_is ω1 l0 (6, 10) = true then (am_bi (am_run (128, 0) 0 ([some (.inr (.inr l0)), some (.inl ((-2))), none], [], ω1)) (fun z2 ω2 => some (some (.inl z2), ω2))) else none) else (am_bi (am_run (143, 0) 0 ([some (.inl l2)], [], ω1)) (fun z3 ω3 => if ¬ z3 = 0 then (if am_is ω3 l0 (6, 10) = true then (if am_is ω3 (am_get ω3 l0.toNat 0) (5, 8) = true then (if am_ina ω3 (am_get ω3 (am_get ω3 l0.toNat 0).toNat 4) l1 = true then (if am_is ω3 (am_get ω3 (am_get ω3 (am_get ω3 l0.toNat 0).toNat 4).toNat l1.toNat) (4, 5) = true then (some (some (.inl (am_get ω3 (am_get ω3 (am_get ω3 (am_get ω3 l0.toNat 0).toNat 4).toNat l1.toNat).toNat 3)), am_put ω3 (am_get ω3 (am_get ω3 (am_get ω3 l0.toNat 0).toNat 4).toNat l1.toNat).toNat 3 l2)) else none) else none) else none) else none) else (if am_is ω3 l0 (6, 10) = true then (am_bi (am_run (128, 0) 0 ([some (.inr (.inr l0)), some (.inl ((-2))), none], [], ω3)) (fun z4 ω4 => some (some (.inl z4), ω4))) else none)))) := by
  refine Eq.trans (rr_aload_n rfl rfl) ?_
  refine Eq.trans (rr_getfr rfl rfl rfl h1) ?_
  refine Eq.trans (rr_iload_n rfl rfl) ?_
  refine Eq.trans (rr_invV0i (S' := []) (L' := [some (.inr (.inr (am_get ω l0.toNat 0))), some (.inl l1)]) (m' := (58, 0)) rfl rfl rfl rfl rfl rfl h2) ?_
  refine bi_cg (fun z1 ω1 => ?_)
  refine Eq.trans (rr_if_eq rfl rfl) (it_cg (fun _ => ?_) (fun _ => ?_))
  · refine Eq.trans (rr_aload_n rfl rfl) ?_
    refine Eq.trans (rr_bipush rfl rfl) ?_
    refine ck_it (fun h => rr_invV0i (S' := []) (L' := [some (.inr (.inr l0)), some (.inl ((-2))), none]) (m' := (128, 0)) rfl rfl rfl rfl rfl rfl h) (fun h => rr_invV0_no (S' := []) (L' := [some (.inr (.inr l0)), some (.inl ((-2))), none]) (m' := (128, 0)) rfl rfl rfl rfl rfl rfl h) (fun h3 => ?_)
    refine bi_cg (fun z2 ω2 => ?_)
    exact rr_ireturn rfl rfl
  · refine Eq.trans (rr_iload_n rfl rfl) ?_
    refine Eq.trans (rr_invS2i (S' := []) (L' := [some (.inl l2)]) (m' := (143, 0)) rfl rfl rfl rfl rfl rfl) ?_
    refine bi_cg (fun z3 ω3 => ?_)
    refine Eq.trans (rr_if_ne rfl rfl) (it_cg (fun _ => ?_) (fun _ => ?_))
    · refine Eq.trans (rr_aload_n rfl rfl) ?_
      refine ck_it (fun h => rr_getfr rfl rfl rfl h) (fun h => rr_getfield_no rfl rfl h) (fun h4 => ?_)
      refine ck_it (fun h => rr_getfr rfl rfl rfl h) (fun h => rr_getfield_no rfl rfl h) (fun h5 => ?_)
      refine Eq.trans (rr_iload_n rfl rfl) ?_
      refine ck_it (fun h => rr_aaload rfl h) (fun h => rr_aaload_no rfl h) (fun h6 => ?_)
      refine ck_it (fun h => rr_getfi rfl rfl rfl h) (fun h => rr_getfield_no rfl rfl h) (fun h7 => ?_)
      refine Eq.trans (rr_istore_n (L' := [some (.inr (.inr l0)), some (.inl l1), some (.inl l2), some (.inl (am_get ω3 (am_get ω3 (am_get ω3 (am_get ω3 l0.toNat 0).toNat 4).toNat l1.toNat).toNat 3))]) rfl rfl) ?_
      refine Eq.trans (rr_aload_n rfl rfl) ?_
      refine Eq.trans (rr_getfr rfl rfl rfl h4) ?_
      refine Eq.trans (rr_getfr rfl rfl rfl h5) ?_
      refine Eq.trans (rr_iload_n rfl rfl) ?_
      refine Eq.trans (rr_aaload rfl h6) ?_
      refine Eq.trans (rr_iload_n rfl rfl) ?_
      refine Eq.trans (rr_putfieldi rfl rfl rfl h7) ?_
      refine Eq.trans (rr_iload_n rfl rfl) ?_
      exact rr_ireturn rfl rfl
    · refine Eq.trans (rr_aload_n rfl rfl) ?_
      refine Eq.trans (rr_bipush rfl rfl) ?_
      refine ck_it (fun h => rr_invV0i (S' := []) (L' := [some (.inr (.inr l0)), some (.inl ((-2))), none]) (m' := (128, 0)) rfl rfl rfl rfl rfl rfl h) (fun h => rr_invV0_no (S' := []) (L' := [some (.inr (.inr l0)), some (.inl ((-2))), none]) (m' := (128, 0)) rfl rfl rfl rfl rfl rfl h) (fun h8 => ?_)
      refine bi_cg (fun z4 ω4 => ?_)
      exact rr_ireturn rfl rfl
theorem pX6_feed_0 (l0 l1 : Int) (ω : am_W) (h1 : am_is ω l0 (6, 10) = true) (h2 : am_is ω (am_get ω l0.toNat 3) (3, 7) = true) : am_run (96, 0) 0 ([some (.inr (.inr l0)), some (.inl l1)], [], ω) = if l1 < 0 then (am_bi (am_run (128, 0) 0 ([some (.inr (.inr l0)), some (.inl ((-2))), none], [], ω)) (fun z1 ω1 => some (some (.inl z1), ω1))) else (if l1 ≤ 255 then (if (am_get ω (am_get ω l0.toNat 3).toNat 1) < 250 then (if am_in ω (am_get ω (am_get ω l0.toNat 3).toNat 0) 100 (am_get ω (am_get ω l0.toNat 3).toNat 1) = true then (if am_is (am_put ω (am_get ω (am_get ω l0.toNat 3).toNat 0).toNat (am_get ω (am_get ω l0.toNat 3).toNat 1).toNat l1) (am_get (am_put ω (am_get ω (am_get ω l0.toNat 3).toNat 0).toNat (am_get ω (am_get ω l0.toNat 3).toNat 1).toNat l1) l0.toNat 3) (3, 7) = true then (if am_is (am_put (am_put ω (am_get ω (am_get ω l0.toNat 3).toNat 0).toNat (am_get ω (am_get ω l0.toNat 3).toNat 1).toNat l1) (am_get (am_put ω (am_get ω (am_get ω l0.toNat 3).toNat 0).toNat (am_get ω (am_get ω l0.toNat 3).toNat 1).toNat l1) l0.toNat 3).toNat 1 (am_w ((am_get (am_put ω (am_get ω (am_get ω l0.toNat 3).toNat 0).toNat (am_get ω (am_get ω l0.toNat 3).toNat 1).toNat l1) (am_get (am_put ω (am_get ω (am_get ω l0.toNat 3).toNat 0).toNat (am_get ω (am_get ω l0.toNat 3).toNat 1).toNat l1) l0.toNat 3).toNat 1) + 1))) (am_get (am_put (am_put ω (am_get ω (am_get ω l0.toNat 3).toNat 0).toNat (am_get ω (am_get ω l0.toNat 3).toNat 1).toNat l1) (am_get (am_put ω (am_get ω (am_get ω l0.toNat 3).toNat 0).toNat (am_get ω (am_get ω l0.toNat 3).toNat 1).toNat l1) l0.toNat 3).toNat 1 (am_w ((am_get (am_put ω (am_get ω (am_get ω l0.toNat 3).toNat 0).toNat (am_get ω (am_get ω l0.toNat 3).toNat 1).toNat l1) (am_get (am_put ω (am_get ω (am_get ω l0.toNat 3).toNat 0).toNat (am_get ω (am_get ω l0.toNat 3).toNat 1).toNat l1) l0.toNat 3).toNat 1) + 1))) l0.toNat 3) (3, 7) = true then (some (some (.inl (am_get (am_put (am_put ω (am_get ω (am_get ω l0.toNat 3).toNat 0).toNat (am_get ω (am_get ω l0.toNat 3).toNat 1).toNat l1) (am_get (am_put ω (am_get ω (am_get ω l0.toNat 3).toNat 0).toNat (am_get ω (am_get ω l0.toNat 3).toNat 1).toNat l1) l0.toNat 3).toNat 1 (am_w ((am_get (am_put ω (am_get ω (am_get ω l0.toNat 3).toNat 0).toNat (am_get ω (am_get ω l0.toNat 3).toNat 1).toNat l1) (am_get (am_put ω (am_get ω (am_get ω l0.toNat 3).toNat 0).toNat (am_get ω (am_get ω l0.toNat 3).toNat 1).toNat l1) l0.toNat 3).toNat 1) + 1))) (am_get (am_put (am_put ω (am_get ω (am_get ω l0.toNat 3).toNat 0).toNat (am_get ω (am_get ω l0.toNat 3).toNat 1).toNat l1) (am_get (am_put ω (am_get ω (am_get ω l0.toNat 3).toNat 0).toNat (am_get ω (am_get ω l0.toNat 3).toNat 1).toNat l1) l0.toNat 3).toNat 1 (am_w ((am_get (am_put ω (am_get ω (am_get ω l0.toNat 3).toNat 0).toNat (am_get ω (am_get ω l0.toNat 3).toNat 1).toNat l1) (am_get (am_put ω (am_get ω (am_get ω l0.toNat 3).toNat 0).toNat (am_get ω (am_get ω l0.toNat 3).toNat 1).toNat l1) l0.toNat 3).toNat 1) + 1))) l0.toNat 3).toNat 1)), am_put (am_put ω (am_get ω (am_get ω l0.toNat 3).toNat 0).toNat (am_get ω (am_get ω l0.toNat 3).toNat 1).toNat l1) (am_get (am_put ω (am_get ω (am_get ω l0.toNat 3).toNat 0).toNat (am_get ω (am_get ω l0.toNat 3).toNat 1).toNat l1) l0.toNat 3).toNat 1 (am_w ((am_get (am_put ω (am_get ω (am_get ω l0.toNat 3).toNat 0).toNat (am_get ω (am_get ω l0.toNat 3).toNat 1).toNat l1) (am_get (am_put ω (am_get ω (am_get ω l0.toNat 3).toNat 0).toNat (am_get ω (am_get ω l0.toNat 3).toNat 1).toNat l1) l0.toNat 3).toNat 1) + 1)))) else none) else none) else none) else (am_bi (am_run (128, 0) 0 ([some (.inr (.inr l0)), some (.inl ((-6))), none], [], ω)) (fun z2 ω2 => some (some (.inl z2), ω2)))) else (am_bi (am_run (128, 0) 0 ([some (.inr (.inr l0)), some (.inl ((-2))), none], [], ω)) (fun z3 ω3 => some (some (.inl z3), ω3)))) := by
  refine Eq.trans (rr_iload_n rfl rfl) ?_
  refine Eq.trans (rr_if_lt rfl rfl) (it_cg (fun _ => ?_) (fun _ => ?_))
  · refine Eq.trans (rr_aload_n rfl rfl) ?_
    refine Eq.trans (rr_bipush rfl rfl) ?_
    refine Eq.trans (rr_invV0i (S' := []) (L' := [some (.inr (.inr l0)), some (.inl ((-2))), none]) (m' := (128, 0)) rfl rfl rfl rfl rfl rfl h1) ?_
    refine bi_cg (fun z1 ω1 => ?_)
    exact rr_ireturn rfl rfl
  · refine Eq.trans (rr_iload_n rfl rfl) ?_
    refine Eq.trans (rr_sipush rfl rfl) ?_
    refine Eq.trans (rr_icmp_le rfl rfl) (it_cg (fun _ => ?_) (fun _ => ?_))
    · refine Eq.trans (rr_aload_n rfl rfl) ?_
      refine Eq.trans (rr_getfr rfl rfl rfl h1) ?_
      refine Eq.trans (rr_getfi rfl rfl rfl h2) ?_
      refine Eq.trans (rr_sipush rfl rfl) ?_
      refine Eq.trans (rr_icmp_lt rfl rfl) (it_cg (fun _ => ?_) (fun _ => ?_))
      · refine Eq.trans (rr_aload_n rfl rfl) ?_
        refine Eq.trans (rr_getfr rfl rfl rfl h1) ?_
        refine Eq.trans (rr_getfr rfl rfl rfl h2) ?_
        refine Eq.trans (rr_aload_n rfl rfl) ?_
        refine Eq.trans (rr_getfr rfl rfl rfl h1) ?_
        refine Eq.trans (rr_getfi rfl rfl rfl h2) ?_
        refine Eq.trans (rr_iload_n rfl rfl) ?_
        refine ck_it (fun h => rr_iastore rfl h) (fun h => rr_iastore_no rfl h) (fun h3 => ?_)
        refine Eq.trans (rr_aload_n rfl rfl) ?_
        refine Eq.trans (rr_getfr rfl rfl rfl h1) ?_
        refine Eq.trans (rr_dupr rfl) ?_
        refine ck_it (fun h => rr_getfi rfl rfl rfl h) (fun h => rr_getfield_no rfl rfl h) (fun h4 => ?_)
        refine Eq.trans (rr_iconst rfl rfl) ?_
        refine Eq.trans (rr_iadd rfl) ?_
        refine Eq.trans (rr_putfieldi rfl rfl rfl h4) ?_
        refine Eq.trans (rr_aload_n rfl rfl) ?_
        refine Eq.trans (rr_getfr rfl rfl rfl h1) ?_
        refine ck_it (fun h => rr_getfi rfl rfl rfl h) (fun h => rr_getfield_no rfl rfl h) (fun h5 => ?_)
        exact rr_ireturn rfl rfl
      · refine Eq.trans (rr_aload_n rfl rfl) ?_
        refine Eq.trans (rr_bipush rfl rfl) ?_
        refine Eq.trans (rr_invV0i (S' := []) (L' := [some (.inr (.inr l0)), some (.inl ((-6))), none]) (m' := (128, 0)) rfl rfl rfl rfl rfl rfl h1) ?_
        refine bi_cg (fun z2 ω2 => ?_)
        exact rr_ireturn rfl rfl
    · refine Eq.trans (rr_aload_n rfl rfl) ?_
      refine Eq.trans (rr_bipush rfl rfl) ?_
      refine Eq.trans (rr_invV0i (S' := []) (L' := [some (.inr (.inr l0)), some (.inl ((-2))), none]) (m' := (128, 0)) rfl rfl rfl rfl rfl rfl h1) ?_
      refine bi_cg (fun z3 ω3 => ?_)
      exact rr_ireturn rfl rfl
theorem pX6_wipe_0 (l0 : Int) (ω : am_W) (h1 : am_is ω l0 (6, 10) = true) (h2 : am_is ω (am_get ω l0.toNat 3) (3, 7) = true) : am_run (97, 0) 0 ([some (.inr (.inr l0)), none], [], ω) = some (some (.inl (am_get ω (am_get ω l0.toNat 3).toNat 1)), am_put ω (am_get ω l0.toNat 3).toNat 1 0) := by
  refine Eq.trans (rr_aload_n rfl rfl) ?_
  refine Eq.trans (rr_getfr rfl rfl rfl h1) ?_
  refine Eq.trans (rr_getfi rfl rfl rfl h2) ?_
  refine Eq.trans (rr_istore_n (L' := [some (.inr (.inr l0)), some (.inl (am_get ω (am_get ω l0.toNat 3).toNat 1))]) rfl rfl) ?_
  refine Eq.trans (rr_aload_n rfl rfl) ?_
  refine Eq.trans (rr_getfr rfl rfl rfl h1) ?_
  refine Eq.trans (rr_iconst rfl rfl) ?_
  refine Eq.trans (rr_putfieldi rfl rfl rfl h2) ?_
  refine Eq.trans (rr_iload_n rfl rfl) ?_
  exact rr_ireturn rfl rfl
theorem pX6_world_0 (l0 : Int) (ω : am_W) (h1 : am_is ω l0 (6, 10) = true) (h2 : am_is ω (am_get ω l0.toNat 3) (3, 7) = true) : am_run (98, 0) 0 ([some (.inr (.inr l0)), none], [], ω) = am_bi (am_run (34, 0) 0 ([some (.inr (.inr (am_get ω l0.toNat 3))), some (.inr (.inr (am_get ω l0.toNat 0))), none], [], ω)) (fun z1 ω1 => if am_is ω1 l0 (6, 10) = true then (if am_is ω1 (am_get ω1 l0.toNat 3) (3, 7) = true then (if am_is (am_put ω1 (am_get ω1 l0.toNat 3).toNat 1 0) (am_get (am_put ω1 (am_get ω1 l0.toNat 3).toNat 1 0) l0.toNat 3) (3, 7) = true then (if (am_get (am_put ω1 (am_get ω1 l0.toNat 3).toNat 1 0) (am_get (am_put ω1 (am_get ω1 l0.toNat 3).toNat 1 0) l0.toNat 3).toNat 6) = ((-1)) then (if am_is (am_put ω1 (am_get ω1 l0.toNat 3).toNat 1 0) (am_get (am_put ω1 (am_get ω1 l0.toNat 3).toNat 1 0) l0.toNat 0) (5, 8) = true then (am_bv (am_run (53, 0) 0 ([some (.inr (.inr (am_get (am_put ω1 (am_get ω1 l0.toNat 3).toNat 1 0) l0.toNat 0))), some (.inr (.inr (am_get (am_put ω1 (am_get ω1 l0.toNat 3).toNat 1 0) (am_get (am_put ω1 (am_get ω1 l0.toNat 3).toNat 1 0) l0.toNat 3).toNat 2))), none], [], am_put ω1 (am_get ω1 l0.toNat 3).toNat 1 0)) (fun ω2 => some (some (.inl z1), ω2))) else none) else (am_bi (am_run (128, 0) 0 ([some (.inr (.inr l0)), some (.inl ((-2))), none], [], am_put ω1 (am_get ω1 l0.toNat 3).toNat 1 0)) (fun z3 ω3 => if am_is ω3 l0 (6, 10) = true then (if am_is ω3 (am_get ω3 l0.toNat 3) (3, 7) = true then (some (some (.inl (am_w (((-20)) - (am_get ω3 (am_get ω3 l0.toNat 3).toNat 6)))), ω3)) else none) else none))) else none) else none) else none) := by
  refine Eq.trans (rr_aload_n rfl rfl) ?_
  refine Eq.trans (rr_getfr rfl rfl rfl h1) ?_
  refine Eq.trans (rr_aload_n rfl rfl) ?_
  refine Eq.trans (rr_getfr rfl rfl rfl h1) ?_
  refine Eq.trans (rr_invV0i (S' := []) (L' := [some (.inr (.inr (am_get ω l0.toNat 3))), some (.inr (.inr (am_get ω l0.toNat 0))), none]) (m' := (34, 0)) rfl rfl rfl rfl rfl rfl h2) ?_
  refine bi_cg (fun z1 ω1 => ?_)
  refine Eq.trans (rr_istore_n (L' := [some (.inr (.inr l0)), some (.inl z1)]) rfl rfl) ?_
  refine Eq.trans (rr_aload_n rfl rfl) ?_
  refine ck_it (fun h => rr_getfr rfl rfl rfl h) (fun h => rr_getfield_no rfl rfl h) (fun h3 => ?_)
  refine Eq.trans (rr_iconst rfl rfl) ?_
  refine ck_it (fun h => rr_putfieldi rfl rfl rfl h) (fun h => rr_putfieldi_no rfl rfl h) (fun h4 => ?_)
  refine Eq.trans (rr_aload_n rfl rfl) ?_
  refine Eq.trans (rr_getfr rfl rfl rfl h3) ?_
  refine ck_it (fun h => rr_getfi rfl rfl rfl h) (fun h => rr_getfield_no rfl rfl h) (fun h5 => ?_)
  refine Eq.trans (rr_iconst rfl rfl) ?_
  refine Eq.trans (rr_icmp_eq rfl rfl) (it_cg (fun _ => ?_) (fun _ => ?_))
  · refine Eq.trans (rr_aload_n rfl rfl) ?_
    refine Eq.trans (rr_getfr rfl rfl rfl h3) ?_
    refine Eq.trans (rr_aload_n rfl rfl) ?_
    refine Eq.trans (rr_getfr rfl rfl rfl h3) ?_
    refine Eq.trans (rr_getfr rfl rfl rfl h5) ?_
    refine ck_it (fun h => rr_invV0v (S' := []) (L' := [some (.inr (.inr (am_get (am_put ω1 (am_get ω1 l0.toNat 3).toNat 1 0) l0.toNat 0))), some (.inr (.inr (am_get (am_put ω1 (am_get ω1 l0.toNat 3).toNat 1 0) (am_get (am_put ω1 (am_get ω1 l0.toNat 3).toNat 1 0) l0.toNat 3).toNat 2))), none]) (m' := (53, 0)) rfl rfl rfl rfl rfl rfl h) (fun h => rr_invV0_no (S' := []) (L' := [some (.inr (.inr (am_get (am_put ω1 (am_get ω1 l0.toNat 3).toNat 1 0) l0.toNat 0))), some (.inr (.inr (am_get (am_put ω1 (am_get ω1 l0.toNat 3).toNat 1 0) (am_get (am_put ω1 (am_get ω1 l0.toNat 3).toNat 1 0) l0.toNat 3).toNat 2))), none]) (m' := (53, 0)) rfl rfl rfl rfl rfl rfl h) (fun h6 => ?_)
    refine bv_cg (fun ω2 => ?_)
    refine Eq.trans (rr_iload_n rfl rfl) ?_
    exact rr_ireturn rfl rfl
  · refine Eq.trans (rr_aload_n rfl rfl) ?_
    refine Eq.trans (rr_bipush rfl rfl) ?_
    refine Eq.trans (rr_invV0i (S' := []) (L' := [some (.inr (.inr l0)), some (.inl ((-2))), none]) (m' := (128, 0)) rfl rfl rfl rfl rfl rfl h3) ?_
    refine bi_cg (fun z3 ω3 => ?_)
    refine Eq.trans (rr_popi rfl) ?_
    refine Eq.trans (rr_bipush rfl rfl) ?_
    refine Eq.trans (rr_aload_n rfl rfl) ?_
    refine ck_it (fun h => rr_getfr rfl rfl rfl h) (fun h => rr_getfield_no rfl rfl h) (fun h7 => ?_)
    refine ck_it (fun h => rr_getfi rfl rfl rfl h) (fun h => rr_getfield_no rfl rfl h) (fun h8 => ?_)
    refine Eq.trans (rr_isub rfl) ?_
    exact rr_ireturn rfl rfl
theorem pX6_shipOf_0 (l0 l1 l2 : Int) (ω : am_W) (h1 : am_is ω l0 (6, 10) = true) (h2 : am_is ω (am_get ω l0.toNat 0) (5, 8) = true) : am_run (99, 0) 0 ([some (.inr (.inr l0)), some (.inl l1), some (.inl l2), none], [], ω) = am_bi (am_run (58, 0) 0 ([some (.inr (.inr (am_get ω l0.toNat 0))), some (.inl l1)], [], ω)) (fun z1 ω1 => if ¬ z1 = 0 then (if am_is ω1 l0 (6, 10) = true then (if am_is ω1 (am_get ω1 l0.toNat 0) (5, 8) = true then (if am_ina ω1 (am_get ω1 (am_get ω1 l0.toNat 0).toNat 4) l1 = true then (if l2 = 0 then (if am_is ω1 (am_get ω1 (am_get ω1 (am_get ω1 l0.toNat 0).toNat 4).toNat l1.toNat) (4, 5) = true then (some (some (.inl (am_get ω1 (am_get ω1 (am_get ω1 (am_get ω1 l0.toNat 0).toNat 4).toNat l1.toNat).toNat 0)), ω1)) else none) else if l2 = 1 then (if am_is ω1 (am_get ω1 (am_get ω1 (am_get ω1 l0.toNat 0).toNat 4).toNat l1.toNat) (4, 5) = true then (some (some (.inl (am_get ω1 (am_get ω1 (am_get ω1 (am_get ω1 l0.toNat 0).toNat 4).toNat l1.toNat).toNat 1)), ω1)) else none) else if l2 = 2 then (if am_is ω1 (am_get ω1 (am_get ω1 (am_get ω1 l0.toNat 0).toNat 4).toNat l1.toNat) (4, 5) = true then (some (some (.inl (am_get ω1 (am_get ω1 (am_get ω1 (am_get ω1 l0.toNat 0).toNat 4).toNat l1.toNat).toNat 2)), ω1)) else none) else if l2 = 3 then (if am_is ω1 (am_get ω1 (am_get ω1 (am_get ω1 l0.toNat 0).toNat 4).toNat l1.toNat) (4, 5) = true then (some (some (.inl (am_get ω1 (am_get ω1 (am_get ω1 (am_get ω1 l0.toNat 0).toNat 4).toNat l1.toNat).toNat 3)), ω1)) else none) else if l2 = 4 then (if am_is ω1 (am_get ω1 (am_get ω1 (am_get ω1 l0.toNat 0).toNat 4).toNat l1.toNat) (4, 5) = true then (some (some (.inl (am_get ω1 (am_get ω1 (am_get ω1 (am_get ω1 l0.toNat 0).toNat 4).toNat l1.toNat).toNat 4)), ω1)) else none) else (am_bi (am_run (128, 0) 0 ([some (.inr (.inr l0)), some (.inl ((-2))), none], [], ω1)) (fun z2 ω2 => some (some (.inl z2), ω2)))) else none) else none) else none) else (if am_is ω1 l0 (6, 10) = true then (am_bi (am_run (128, 0) 0 ([some (.inr (.inr l0)), some (.inl ((-2))), none], [], ω1)) (fun z3 ω3 => some (some (.inl z3), ω3))) else none)) := by
  refine Eq.trans (rr_aload_n rfl rfl) ?_
  refine Eq.trans (rr_getfr rfl rfl rfl h1) ?_
  refine Eq.trans (rr_iload_n rfl rfl) ?_
  refine Eq.trans (rr_invV0i (S' := []) (L' := [some (.inr (.inr (am_get ω l0.toNat 0))), some (.inl l1)]) (m' := (58, 0)) rfl rfl rfl rfl rfl rfl h2) ?_
  refine bi_cg (fun z1 ω1 => ?_)
  refine Eq.trans (rr_if_ne rfl rfl) (it_cg (fun _ => ?_) (fun _ => ?_))
  · refine Eq.trans (rr_aload_n rfl rfl) ?_
    refine ck_it (fun h => rr_getfr rfl rfl rfl h) (fun h => rr_getfield_no rfl rfl h) (fun h3 => ?_)
    refine ck_it (fun h => rr_getfr rfl rfl rfl h) (fun h => rr_getfield_no rfl rfl h) (fun h4 => ?_)
    refine Eq.trans (rr_iload_n rfl rfl) ?_
    refine ck_it (fun h => rr_aaload rfl h) (fun h => rr_aaload_no rfl h) (fun h5 => ?_)
    refine Eq.trans (rr_astore_n (L' := [some (.inr (.inr l0)), some (.inl l1), some (.inl l2), some (.inr (.inr (am_get ω1 (am_get ω1 (am_get ω1 l0.toNat 0).toNat 4).toNat l1.toNat)))]) rfl rfl) ?_
    refine Eq.trans (rr_iload_n rfl rfl) ?_
    refine sw_it (fun q6 => Eq.trans (rr_tsw rfl (by rw [q6]; rfl) rfl) ?_) (fun q6 => ?_)
    · refine Eq.trans (rr_aload_n rfl rfl) ?_
      refine ck_it (fun h => rr_getfi rfl rfl rfl h) (fun h => rr_getfield_no rfl rfl h) (fun h7 => ?_)
      exact rr_ireturn rfl rfl
    refine sw_it (fun q8 => Eq.trans (rr_tsw rfl (by rw [q8]; rfl) rfl) ?_) (fun q8 => ?_)
    · refine Eq.trans (rr_aload_n rfl rfl) ?_
      refine ck_it (fun h => rr_getfi rfl rfl rfl h) (fun h => rr_getfield_no rfl rfl h) (fun h9 => ?_)
      exact rr_ireturn rfl rfl
    refine sw_it (fun q10 => Eq.trans (rr_tsw rfl (by rw [q10]; rfl) rfl) ?_) (fun q10 => ?_)
    · refine Eq.trans (rr_aload_n rfl rfl) ?_
      refine ck_it (fun h => rr_getfi rfl rfl rfl h) (fun h => rr_getfield_no rfl rfl h) (fun h11 => ?_)
      exact rr_ireturn rfl rfl
    refine sw_it (fun q12 => Eq.trans (rr_tsw rfl (by rw [q12]; rfl) rfl) ?_) (fun q12 => ?_)
    · refine Eq.trans (rr_aload_n rfl rfl) ?_
      refine ck_it (fun h => rr_getfi rfl rfl rfl h) (fun h => rr_getfield_no rfl rfl h) (fun h13 => ?_)
      exact rr_ireturn rfl rfl
    refine sw_it (fun q14 => Eq.trans (rr_tsw rfl (by rw [q14]; rfl) rfl) ?_) (fun q14 => ?_)
    · refine Eq.trans (rr_aload_n rfl rfl) ?_
      refine ck_it (fun h => rr_getfi rfl rfl rfl h) (fun h => rr_getfield_no rfl rfl h) (fun h15 => ?_)
      exact rr_ireturn rfl rfl
    refine Eq.trans (rr_tsw rfl (am_tsw_out (by omega)) rfl) ?_
    refine Eq.trans (rr_aload_n rfl rfl) ?_
    refine Eq.trans (rr_bipush rfl rfl) ?_
    refine Eq.trans (rr_invV0i (S' := []) (L' := [some (.inr (.inr l0)), some (.inl ((-2))), none]) (m' := (128, 0)) rfl rfl rfl rfl rfl rfl h3) ?_
    refine bi_cg (fun z2 ω2 => ?_)
    exact rr_ireturn rfl rfl
  · refine Eq.trans (rr_aload_n rfl rfl) ?_
    refine Eq.trans (rr_bipush rfl rfl) ?_
    refine ck_it (fun h => rr_invV0i (S' := []) (L' := [some (.inr (.inr l0)), some (.inl ((-2))), none]) (m' := (128, 0)) rfl rfl rfl rfl rfl rfl h) (fun h => rr_invV0_no (S' := []) (L' := [some (.inr (.inr l0)), some (.inl ((-2))), none]) (m' := (128, 0)) rfl rfl rfl rfl rfl rfl h) (fun h16 => ?_)
    refine bi_cg (fun z3 ω3 => ?_)
    exact rr_ireturn rfl rfl
theorem pX6_circleOf_0 (l0 l1 l2 : Int) (ω : am_W) (h1 : am_is ω l0 (6, 10) = true) (h2 : am_is ω (am_get ω l0.toNat 0) (5, 8) = true) : am_run (100, 0) 0 ([some (.inr (.inr l0)), some (.inl l1), some (.inl l2)], [], ω) = am_bi (am_run (54, 0) 0 ([some (.inr (.inr (am_get ω l0.toNat 0))), some (.inl l1)], [], ω)) (fun z1 ω1 => if ¬ z1 = 0 then (if l2 = 0 then (if am_is ω1 l0 (6, 10) = true then (if am_is ω1 (am_get ω1 l0.toNat 0) (5, 8) = true then (if am_in ω1 (am_get ω1 (am_get ω1 l0.toNat 0).toNat 1) 100 l1 = true then (some (some (.inl (am_get ω1 (am_get ω1 (am_get ω1 l0.toNat 0).toNat 1).toNat l1.toNat)), ω1)) else none) else none) else none) else if l2 = 1 then (if am_is ω1 l0 (6, 10) = true then (if am_is ω1 (am_get ω1 l0.toNat 0) (5, 8) = true then (am_bi (am_run (55, 0) 0 ([some (.inr (.inr (am_get ω1 l0.toNat 0))), some (.inl l1)], [], ω1)) (fun z2 ω2 => if z2 = 0 then (some (some (.inl 0), ω2)) else (if am_is ω2 l0 (6, 10) = true then (if am_is ω2 (am_get ω2 l0.toNat 0) (5, 8) = true then (if am_in ω2 (am_get ω2 (am_get ω2 l0.toNat 0).toNat 2) 100 l1 = true then (some (some (.inl (am_get ω2 (am_get ω2 (am_get ω2 l0.toNat 0).toNat 2).toNat l1.toNat)), ω2)) else none) else none) else none))) else none) else none) else if l2 = 2 then (if am_is ω1 l0 (6, 10) = true then (if am_is ω1 (am_get ω1 l0.toNat 0) (5, 8) = true then (am_bi (am_run (64, 0) 0 ([some (.inr (.inr (am_get ω1 l0.toNat 0))), some (.inl l1), none, none], [], ω1)) (fun z3 ω3 => some (some (.inl z3), ω3))) else none) else none) else (if am_is ω1 l0 (6, 10) = true then (am_bi (am_run (128, 0) 0 ([some (.inr (.inr l0)), some (.inl ((-2))), none], [], ω1)) (fun z4 ω4 => some (some (.inl z4), ω4))) else none)) else (if am_is ω1 l0 (6, 10) = true then (am_bi (am_run (128, 0) 0 ([some (.inr (.inr l0)), some (.inl ((-2))), none], [], ω1)) (fun z5 ω5 => some (some (.inl z5), ω5))) else none)) := by
  refine Eq.trans (rr_aload_n rfl rfl) ?_
  refine Eq.trans (rr_getfr rfl rfl rfl h1) ?_
  refine Eq.trans (rr_iload_n rfl rfl) ?_
  refine Eq.trans (rr_invV0i (S' := []) (L' := [some (.inr (.inr (am_get ω l0.toNat 0))), some (.inl l1)]) (m' := (54, 0)) rfl rfl rfl rfl rfl rfl h2) ?_
  refine bi_cg (fun z1 ω1 => ?_)
  refine Eq.trans (rr_if_ne rfl rfl) (it_cg (fun _ => ?_) (fun _ => ?_))
  · refine Eq.trans (rr_iload_n rfl rfl) ?_
    refine sw_it (fun q3 => Eq.trans (rr_tsw rfl (by rw [q3]; rfl) rfl) ?_) (fun q3 => ?_)
    · refine Eq.trans (rr_aload_n rfl rfl) ?_
      refine ck_it (fun h => rr_getfr rfl rfl rfl h) (fun h => rr_getfield_no rfl rfl h) (fun h4 => ?_)
      refine ck_it (fun h => rr_getfr rfl rfl rfl h) (fun h => rr_getfield_no rfl rfl h) (fun h5 => ?_)
      refine Eq.trans (rr_iload_n rfl rfl) ?_
      refine ck_it (fun h => rr_iaload rfl rfl h) (fun h => rr_iaload_no rfl rfl h) (fun h6 => ?_)
      exact rr_ireturn rfl rfl
    refine sw_it (fun q7 => Eq.trans (rr_tsw rfl (by rw [q7]; rfl) rfl) ?_) (fun q7 => ?_)
    · refine Eq.trans (rr_aload_n rfl rfl) ?_
      refine ck_it (fun h => rr_getfr rfl rfl rfl h) (fun h => rr_getfield_no rfl rfl h) (fun h8 => ?_)
      refine Eq.trans (rr_iload_n rfl rfl) ?_
      refine ck_it (fun h => rr_invV0i (S' := []) (L' := [some (.inr (.inr (am_get ω1 l0.toNat 0))), some (.inl l1)]) (m' := (55, 0)) rfl rfl rfl rfl rfl rfl h) (fun h => rr_invV0_no (S' := []) (L' := [some (.inr (.inr (am_get ω1 l0.toNat 0))), some (.inl l1)]) (m' := (55, 0)) rfl rfl rfl rfl rfl rfl h) (fun h9 => ?_)
      refine bi_cg (fun z2 ω2 => ?_)
      refine Eq.trans (rr_if_eq rfl rfl) (it_cg (fun _ => ?_) (fun _ => ?_))
      · refine Eq.trans (rr_iconst rfl rfl) ?_
        exact rr_ireturn rfl rfl
      · refine Eq.trans (rr_aload_n rfl rfl) ?_
        refine ck_it (fun h => rr_getfr rfl rfl rfl h) (fun h => rr_getfield_no rfl rfl h) (fun h10 => ?_)
        refine ck_it (fun h => rr_getfr rfl rfl rfl h) (fun h => rr_getfield_no rfl rfl h) (fun h11 => ?_)
        refine Eq.trans (rr_iload_n rfl rfl) ?_
        refine ck_it (fun h => rr_iaload rfl rfl h) (fun h => rr_iaload_no rfl rfl h) (fun h12 => ?_)
        refine Eq.trans (rr_goto rfl rfl) ?_
        exact rr_ireturn rfl rfl
    refine sw_it (fun q13 => Eq.trans (rr_tsw rfl (by rw [q13]; rfl) rfl) ?_) (fun q13 => ?_)
    · refine Eq.trans (rr_aload_n rfl rfl) ?_
      refine ck_it (fun h => rr_getfr rfl rfl rfl h) (fun h => rr_getfield_no rfl rfl h) (fun h14 => ?_)
      refine Eq.trans (rr_iload_n rfl rfl) ?_
      refine ck_it (fun h => rr_invV0i (S' := []) (L' := [some (.inr (.inr (am_get ω1 l0.toNat 0))), some (.inl l1), none, none]) (m' := (64, 0)) rfl rfl rfl rfl rfl rfl h) (fun h => rr_invV0_no (S' := []) (L' := [some (.inr (.inr (am_get ω1 l0.toNat 0))), some (.inl l1), none, none]) (m' := (64, 0)) rfl rfl rfl rfl rfl rfl h) (fun h15 => ?_)
      refine bi_cg (fun z3 ω3 => ?_)
      exact rr_ireturn rfl rfl
    refine Eq.trans (rr_tsw rfl (am_tsw_out (by omega)) rfl) ?_
    refine Eq.trans (rr_aload_n rfl rfl) ?_
    refine Eq.trans (rr_bipush rfl rfl) ?_
    refine ck_it (fun h => rr_invV0i (S' := []) (L' := [some (.inr (.inr l0)), some (.inl ((-2))), none]) (m' := (128, 0)) rfl rfl rfl rfl rfl rfl h) (fun h => rr_invV0_no (S' := []) (L' := [some (.inr (.inr l0)), some (.inl ((-2))), none]) (m' := (128, 0)) rfl rfl rfl rfl rfl rfl h) (fun h16 => ?_)
    refine bi_cg (fun z4 ω4 => ?_)
    exact rr_ireturn rfl rfl
  · refine Eq.trans (rr_aload_n rfl rfl) ?_
    refine Eq.trans (rr_bipush rfl rfl) ?_
    refine ck_it (fun h => rr_invV0i (S' := []) (L' := [some (.inr (.inr l0)), some (.inl ((-2))), none]) (m' := (128, 0)) rfl rfl rfl rfl rfl rfl h) (fun h => rr_invV0_no (S' := []) (L' := [some (.inr (.inr l0)), some (.inl ((-2))), none]) (m' := (128, 0)) rfl rfl rfl rfl rfl rfl h) (fun h17 => ?_)
    refine bi_cg (fun z5 ω5 => ?_)
    exact rr_ireturn rfl rfl
theorem pX6_can_0 (l0 l1 l2 : Int) (ω : am_W) (h1 : am_is ω l0 (6, 10) = true) (h2 : am_is ω (am_get ω l0.toNat 0) (5, 8) = true) : am_run (101, 0) 0 ([some (.inr (.inr l0)), some (.inl l1), some (.inl l2), none], [], ω) = am_bi (am_run (58, 0) 0 ([some (.inr (.inr (am_get ω l0.toNat 0))), some (.inl l1)], [], ω)) (fun z1 ω1 => if z1 = 0 then (if am_is ω1 l0 (6, 10) = true then (am_bi (am_run (128, 0) 0 ([some (.inr (.inr l0)), some (.inl ((-2))), none], [], ω1)) (fun z2 ω2 => some (some (.inl z2), ω2))) else none) else (am_bi (am_run (142, 0) 0 ([some (.inl l2)], [], ω1)) (fun z3 ω3 => if ¬ z3 = 0 then (if am_is ω3 l0 (6, 10) = true then (if am_is ω3 (am_get ω3 l0.toNat 0) (5, 8) = true then (if am_ina ω3 (am_get ω3 (am_get ω3 l0.toNat 0).toNat 4) l1 = true then (am_bi (am_run (72, 0) 0 ([some (.inr (.inr (am_get ω3 l0.toNat 0))), some (.inr (.inr (am_get ω3 (am_get ω3 (am_get ω3 l0.toNat 0).toNat 4).toNat l1.toNat))), some (.inl l2), none], [], ω3)) (fun z4 ω4 => if z4 = 0 then (some (some (.inl ((-1))), ω4)) else (if am_is ω4 l0 (6, 10) = true then (if am_is ω4 (am_get ω3 (am_get ω3 (am_get ω3 l0.toNat 0).toNat 4).toNat l1.toNat) (4, 5) = true then (if am_is ω4 (am_get ω4 l0.toNat 0) (5, 8) = true then (am_bi (am_run (69, 0) 0 ([some (.inr (.inr (am_get ω4 l0.toNat 0))), some (.inr (.inr (am_get ω3 (am_get ω3 (am_get ω3 l0.toNat 0).toNat 4).toNat l1.toNat))), some (.inl (am_get ω4 (am_get ω3 (am_get ω3 (am_get ω3 l0.toNat 0).toNat 4).toNat l1.toNat).toNat 1)), some (.inl l2), none], [], ω4)) (fun z5 ω5 => some (some (.inl z5), ω5))) else none) else none) else none))) else none) else none) else none) else (if am_is ω3 l0 (6, 10) = true then (am_bi (am_run (128, 0) 0 ([some (.inr (.inr l0)), some (.inl ((-2))), none], [], ω3)) (fun z6 ω6 => some (some (.inl z6), ω6))) else none)))) := by
  refine Eq.trans (rr_aload_n rfl rfl) ?_
  refine Eq.trans (rr_getfr rfl rfl rfl h1) ?_
  refine Eq.trans (rr_iload_n rfl rfl) ?_
  refine Eq.trans (rr_invV0i (S' := []) (L' := [some (.inr (.inr (am_get ω l0.toNat 0))), some (.inl l1)]) (m' := (58, 0)) rfl rfl rfl rfl rfl rfl h2) ?_
  refine bi_cg (fun z1 ω1 => ?_)
  refine Eq.trans (rr_if_eq rfl rfl) (it_cg (fun _ => ?_) (fun _ => ?_))
  · refine Eq.trans (rr_aload_n rfl rfl) ?_
    refine Eq.trans (rr_bipush rfl rfl) ?_
    refine ck_it (fun h => rr_invV0i (S' := []) (L' := [some (.inr (.inr l0)), some (.inl ((-2))), none]) (m' := (128, 0)) rfl rfl rfl rfl rfl rfl h) (fun h => rr_invV0_no (S' := []) (L' := [some (.inr (.inr l0)), some (.inl ((-2))), none]) (m' := (128, 0)) rfl rfl rfl rfl rfl rfl h) (fun h3 => ?_)
    refine bi_cg (fun z2 ω2 => ?_)
    exact rr_ireturn rfl rfl
  · refine Eq.trans (rr_iload_n rfl rfl) ?_
    refine Eq.trans (rr_invS2i (S' := []) (L' := [some (.inl l2)]) (m' := (142, 0)) rfl rfl rfl rfl rfl rfl) ?_
    refine bi_cg (fun z3 ω3 => ?_)
    refine Eq.trans (rr_if_ne rfl rfl) (it_cg (fun _ => ?_) (fun _ => ?_))
    · refine Eq.trans (rr_aload_n rfl rfl) ?_
      refine ck_it (fun h => rr_getfr rfl rfl rfl h) (fun h => rr_getfield_no rfl rfl h) (fun h4 => ?_)
      refine ck_it (fun h => rr_getfr rfl rfl rfl h) (fun h => rr_getfield_no rfl rfl h) (fun h5 => ?_)
      refine Eq.trans (rr_iload_n rfl rfl) ?_
      refine ck_it (fun h => rr_aaload rfl h) (fun h => rr_aaload_no rfl h) (fun h6 => ?_)
      refine Eq.trans (rr_astore_n (L' := [some (.inr (.inr l0)), some (.inl l1), some (.inl l2), some (.inr (.inr (am_get ω3 (am_get ω3 (am_get ω3 l0.toNat 0).toNat 4).toNat l1.toNat)))]) rfl rfl) ?_
      refine Eq.trans (rr_aload_n rfl rfl) ?_
      refine Eq.trans (rr_getfr rfl rfl rfl h4) ?_
      refine Eq.trans (rr_aload_n rfl rfl) ?_
      refine Eq.trans (rr_iload_n rfl rfl) ?_
      refine Eq.trans (rr_invV0i (S' := []) (L' := [some (.inr (.inr (am_get ω3 l0.toNat 0))), some (.inr (.inr (am_get ω3 (am_get ω3 (am_get ω3 l0.toNat 0).toNat 4).toNat l1.toNat))), some (.inl l2), none]) (m' := (72, 0)) rfl rfl rfl rfl rfl rfl h5) ?_
      refine bi_cg (fun z4 ω4 => ?_)
      refine Eq.trans (rr_if_eq rfl rfl) (it_cg (fun _ => ?_) (fun _ => ?_))
      · refine Eq.trans (rr_iconst rfl rfl) ?_
        exact rr_ireturn rfl rfl
      · refine Eq.trans (rr_aload_n rfl rfl) ?_
        refine ck_it (fun h => rr_getfr rfl rfl rfl h) (fun h => rr_getfield_no rfl rfl h) (fun h7 => ?_)
        refine Eq.trans (rr_aload_n rfl rfl) ?_
        refine Eq.trans (rr_aload_n rfl rfl) ?_
        refine ck_it (fun h => rr_getfi rfl rfl rfl h) (fun h => rr_getfield_no rfl rfl h) (fun h8 => ?_)
        refine Eq.trans (rr_iload_n rfl rfl) ?_
        refine ck_it (fun h => rr_invV0i (S' := []) (L' := [some (.inr (.inr (am_get ω4 l0.toNat 0))), some (.inr (.inr (am_get ω3 (am_get ω3 (am_get ω3 l0.toNat 0).toNat 4).toNat l1.toNat))), some (.inl (am_get ω4 (am_get ω3 (am_get ω3 (am_get ω3 l0.toNat 0).toNat 4).toNat l1.toNat).toNat 1)), some (.inl l2), none]) (m' := (69, 0)) rfl rfl rfl rfl rfl rfl h) (fun h => rr_invV0_no (S' := []) (L' := [some (.inr (.inr (am_get ω4 l0.toNat 0))), some (.inr (.inr (am_get ω3 (am_get ω3 (am_get ω3 l0.toNat 0).toNat 4).toNat l1.toNat))), some (.inl (am_get ω4 (am_get ω3 (am_get ω3 (am_get ω3 l0.toNat 0).toNat 4).toNat l1.toNat).toNat 1)), some (.inl l2), none]) (m' := (69, 0)) rfl rfl rfl rfl rfl rfl h) (fun h9 => ?_)
        refine bi_cg (fun z5 ω5 => ?_)
        refine Eq.trans (rr_goto rfl rfl) ?_
        exact rr_ireturn rfl rfl
    · refine Eq.trans (rr_aload_n rfl rfl) ?_
      refine Eq.trans (rr_bipush rfl rfl) ?_
      refine ck_it (fun h => rr_invV0i (S' := []) (L' := [some (.inr (.inr l0)), some (.inl ((-2))), none]) (m' := (128, 0)) rfl rfl rfl rfl rfl rfl h) (fun h => rr_invV0_no (S' := []) (L' := [some (.inr (.inr l0)), some (.inl ((-2))), none]) (m' := (128, 0)) rfl rfl rfl rfl rfl rfl h) (fun h10 => ?_)
      refine bi_cg (fun z6 ω6 => ?_)
      exact rr_ireturn rfl rfl
theorem pX6_behind_0 (l0 l1 l2 l3 : Int) (ω : am_W) (h1 : am_is ω l0 (6, 10) = true) (h2 : am_is ω (am_get ω l0.toNat 0) (5, 8) = true) : am_run (102, 0) 0 ([some (.inr (.inr l0)), some (.inl l1), some (.inl l2), some (.inl l3), none], [], ω) = am_bi (am_run (58, 0) 0 ([some (.inr (.inr (am_get ω l0.toNat 0))), some (.inl l1)], [], ω)) (fun z1 ω1 => if z1 = 0 then (if am_is ω1 l0 (6, 10) = true then (am_bi (am_run (128, 0) 0 ([some (.inr (.inr l0)), some (.inl ((-2))), none], [], ω1)) (fun z2 ω2 => some (some (.inl z2), ω2))) else none) else (if l2 < 0 then (if am_is ω1 l0 (6, 10) = true then (am_bi (am_run (128, 0) 0 ([some (.inr (.inr l0)), some (.inl ((-2))), none], [], ω1)) (fun z3 ω3 => some (some (.inl z3), ω3))) else none) else (if l2 ≤ 400 then (if am_is ω1 l0 (6, 10) = true then (if am_is ω1 (am_get ω1 l0.toNat 0) (5, 8) = true then (if am_ina ω1 (am_get ω1 (am_get ω1 l0.toNat 0).toNat 4) l1 = true then (if l3 = 0 then (if am_is ω1 (am_get ω1 (am_get ω1 (am_get ω1 l0.toNat 0).toNat 4).toNat l1.toNat) (4, 5) = true then (some (some (.inl (am_get ω1 (am_get ω1 (am_get ω1 (am_get ω1 l0.toNat 0).toNat 4).toNat l1.toNat).toNat 1)), ω1)) else none) else if l3 = 1 then (am_bi (am_run (75, 0) 0 ([some (.inr (.inr (am_get ω1 l0.toNat 0))), some (.inr (.inr (am_get ω1 (am_get ω1 (am_get ω1 l0.toNat 0).toNat 4).toNat l1.toNat))), some (.inl l2)], [], ω1)) (fun z4 ω4 => some (some (.inl z4), ω4))) else if l3 = 2 then (if am_is ω1 (am_get ω1 (am_get ω1 (am_get ω1 l0.toNat 0).toNat 4).toNat l1.toNat) (4, 5) = true then (am_bi (am_run (51, 0) 0 ([some (.inr (.inr (am_get ω1 (am_get ω1 (am_get ω1 l0.toNat 0).toNat 4).toNat l1.toNat))), some (.inl l2)], [], ω1)) (fun z5 ω5 => some (some (.inl z5), ω5))) else none) else (am_bi (am_run (128, 0) 0 ([some (.inr (.inr l0)), some (.inl ((-2))), none], [], ω1)) (fun z6 ω6 => some (some (.inl z6), ω6)))) else none) else none) else none) else (if am_is ω1 l0 (6, 10) = true then (am_bi (am_run (128, 0) 0 ([some (.inr (.inr l0)), some (.inl ((-2))), none], [], ω1)) (fun z7 ω7 => some (some (.inl z7), ω7))) else none)))) := by
  refine Eq.trans (rr_aload_n rfl rfl) ?_
  refine Eq.trans (rr_getfr rfl rfl rfl h1) ?_
  refine Eq.trans (rr_iload_n rfl rfl) ?_
  refine Eq.trans (rr_invV0i (S' := []) (L' := [some (.inr (.inr (am_get ω l0.toNat 0))), some (.inl l1)]) (m' := (58, 0)) rfl rfl rfl rfl rfl rfl h2) ?_
  refine bi_cg (fun z1 ω1 => ?_)
  refine Eq.trans (rr_if_eq rfl rfl) (it_cg (fun _ => ?_) (fun _ => ?_))
  · refine Eq.trans (rr_aload_n rfl rfl) ?_
    refine Eq.trans (rr_bipush rfl rfl) ?_
    refine ck_it (fun h => rr_invV0i (S' := []) (L' := [some (.inr (.inr l0)), some (.inl ((-2))), none]) (m' := (128, 0)) rfl rfl rfl rfl rfl rfl h) (fun h => rr_invV0_no (S' := []) (L' := [some (.inr (.inr l0)), some (.inl ((-2))), none]) (m' := (128, 0)) rfl rfl rfl rfl rfl rfl h) (fun h3 => ?_)
    refine bi_cg (fun z2 ω2 => ?_)
    exact rr_ireturn rfl rfl
  · refine Eq.trans (rr_iload_n rfl rfl) ?_
    refine Eq.trans (rr_if_lt rfl rfl) (it_cg (fun _ => ?_) (fun _ => ?_))
    · refine Eq.trans (rr_aload_n rfl rfl) ?_
      refine Eq.trans (rr_bipush rfl rfl) ?_
      refine ck_it (fun h => rr_invV0i (S' := []) (L' := [some (.inr (.inr l0)), some (.inl ((-2))), none]) (m' := (128, 0)) rfl rfl rfl rfl rfl rfl h) (fun h => rr_invV0_no (S' := []) (L' := [some (.inr (.inr l0)), some (.inl ((-2))), none]) (m' := (128, 0)) rfl rfl rfl rfl rfl rfl h) (fun h4 => ?_)
      refine bi_cg (fun z3 ω3 => ?_)
      exact rr_ireturn rfl rfl
    · refine Eq.trans (rr_iload_n rfl rfl) ?_
      refine Eq.trans (rr_sipush rfl rfl) ?_
      refine Eq.trans (rr_icmp_le rfl rfl) (it_cg (fun _ => ?_) (fun _ => ?_))
      · refine Eq.trans (rr_aload_n rfl rfl) ?_
        refine ck_it (fun h => rr_getfr rfl rfl rfl h) (fun h => rr_getfield_no rfl rfl h) (fun h5 => ?_)
        refine ck_it (fun h => rr_getfr rfl rfl rfl h) (fun h => rr_getfield_no rfl rfl h) (fun h6 => ?_)
        refine Eq.trans (rr_iload_n rfl rfl) ?_
        refine ck_it (fun h => rr_aaload rfl h) (fun h => rr_aaload_no rfl h) (fun h7 => ?_)
        refine Eq.trans (rr_astore (L' := [some (.inr (.inr l0)), some (.inl l1), some (.inl l2), some (.inl l3), some (.inr (.inr (am_get ω1 (am_get ω1 (am_get ω1 l0.toNat 0).toNat 4).toNat l1.toNat)))]) rfl rfl) ?_
        refine Eq.trans (rr_iload_n rfl rfl) ?_
        refine sw_it (fun q8 => Eq.trans (rr_tsw rfl (by rw [q8]; rfl) rfl) ?_) (fun q8 => ?_)
        · refine Eq.trans (rr_aload rfl rfl) ?_
          refine ck_it (fun h => rr_getfi rfl rfl rfl h) (fun h => rr_getfield_no rfl rfl h) (fun h9 => ?_)
          exact rr_ireturn rfl rfl
        refine sw_it (fun q10 => Eq.trans (rr_tsw rfl (by rw [q10]; rfl) rfl) ?_) (fun q10 => ?_)
        · refine Eq.trans (rr_aload_n rfl rfl) ?_
          refine Eq.trans (rr_getfr rfl rfl rfl h5) ?_
          refine Eq.trans (rr_aload rfl rfl) ?_
          refine Eq.trans (rr_iload_n rfl rfl) ?_
          refine Eq.trans (rr_invV0i (S' := []) (L' := [some (.inr (.inr (am_get ω1 l0.toNat 0))), some (.inr (.inr (am_get ω1 (am_get ω1 (am_get ω1 l0.toNat 0).toNat 4).toNat l1.toNat))), some (.inl l2)]) (m' := (75, 0)) rfl rfl rfl rfl rfl rfl h6) ?_
          refine bi_cg (fun z4 ω4 => ?_)
          exact rr_ireturn rfl rfl
        refine sw_it (fun q11 => Eq.trans (rr_tsw rfl (by rw [q11]; rfl) rfl) ?_) (fun q11 => ?_)
        · refine Eq.trans (rr_aload rfl rfl) ?_
          refine Eq.trans (rr_iload_n rfl rfl) ?_
          refine ck_it (fun h => rr_invV0i (S' := []) (L' := [some (.inr (.inr (am_get ω1 (am_get ω1 (am_get ω1 l0.toNat 0).toNat 4).toNat l1.toNat))), some (.inl l2)]) (m' := (51, 0)) rfl rfl rfl rfl rfl rfl h) (fun h => rr_invV0_no (S' := []) (L' := [some (.inr (.inr (am_get ω1 (am_get ω1 (am_get ω1 l0.toNat 0).toNat 4).toNat l1.toNat))), some (.inl l2)]) (m' := (51, 0)) rfl rfl rfl rfl rfl rfl h) (fun h12 => ?_)
          refine bi_cg (fun z5 ω5 => ?_)
          exact rr_ireturn rfl rfl
        refine Eq.trans (rr_tsw rfl (am_tsw_out (by omega)) rfl) ?_
        refine Eq.trans (rr_aload_n rfl rfl) ?_
        refine Eq.trans (rr_bipush rfl rfl) ?_
        refine Eq.trans (rr_invV0i (S' := []) (L' := [some (.inr (.inr l0)), some (.inl ((-2))), none]) (m' := (128, 0)) rfl rfl rfl rfl rfl rfl h5) ?_
        refine bi_cg (fun z6 ω6 => ?_)
        exact rr_ireturn rfl rfl
      · refine Eq.trans (rr_aload_n rfl rfl) ?_
        refine Eq.trans (rr_bipush rfl rfl) ?_
        refine ck_it (fun h => rr_invV0i (S' := []) (L' := [some (.inr (.inr l0)), some (.inl ((-2))), none]) (m' := (128, 0)) rfl rfl rfl rfl rfl rfl h) (fun h => rr_invV0_no (S' := []) (L' := [some (.inr (.inr l0)), some (.inl ((-2))), none]) (m' := (128, 0)) rfl rfl rfl rfl rfl rfl h) (fun h13 => ?_)
        refine bi_cg (fun z7 ω7 => ?_)
        exact rr_ireturn rfl rfl
theorem pX6_meets_0 (l0 l1 l2 : Int) (ω : am_W) (h1 : am_is ω l0 (6, 10) = true) (h2 : am_is ω (am_get ω l0.toNat 0) (5, 8) = true) : am_run (103, 0) 0 ([some (.inr (.inr l0)), some (.inl l1), some (.inl l2)], [], ω) = am_bi (am_run (59, 0) 0 ([some (.inr (.inr (am_get ω l0.toNat 0))), some (.inl l1), some (.inl l2)], [], ω)) (fun z1 ω1 => if ¬ z1 = 0 then (if am_is ω1 l0 (6, 10) = true then (if am_is ω1 (am_get ω1 l0.toNat 0) (5, 8) = true then (if am_ina ω1 (am_get ω1 (am_get ω1 l0.toNat 0).toNat 4) l1 = true then (if am_ina ω1 (am_get ω1 (am_get ω1 l0.toNat 0).toNat 4) l2 = true then (if am_is ω1 (am_get ω1 (am_get ω1 (am_get ω1 l0.toNat 0).toNat 4).toNat l1.toNat) (4, 5) = true then (am_bi (am_run (48, 0) 0 ([some (.inr (.inr (am_get ω1 (am_get ω1 (am_get ω1 l0.toNat 0).toNat 4).toNat l1.toNat))), some (.inr (.inr (am_get ω1 (am_get ω1 (am_get ω1 l0.toNat 0).toNat 4).toNat l2.toNat)))], [], ω1)) (fun z2 ω2 => if z2 = 0 then (some (some (.inl 0), ω2)) else (some (some (.inl 1), ω2)))) else none) else none) else none) else none) else none) else (if am_is ω1 l0 (6, 10) = true then (am_bi (am_run (128, 0) 0 ([some (.inr (.inr l0)), some (.inl ((-2))), none], [], ω1)) (fun z3 ω3 => some (some (.inl z3), ω3))) else none)) := by
  refine Eq.trans (rr_aload_n rfl rfl) ?_
  refine Eq.trans (rr_getfr rfl rfl rfl h1) ?_
  refine Eq.trans (rr_iload_n rfl rfl) ?_
  refine Eq.trans (rr_iload_n rfl rfl) ?_
  refine Eq.trans (rr_invV0i (S' := []) (L' := [some (.inr (.inr (am_get ω l0.toNat 0))), some (.inl l1), some (.inl l2)]) (m' := (59, 0)) rfl rfl rfl rfl rfl rfl h2) ?_
  refine bi_cg (fun z1 ω1 => ?_)
  refine Eq.trans (rr_if_ne rfl rfl) (it_cg (fun _ => ?_) (fun _ => ?_))
  · refine Eq.trans (rr_aload_n rfl rfl) ?_
    refine ck_it (fun h => rr_getfr rfl rfl rfl h) (fun h => rr_getfield_no rfl rfl h) (fun h3 => ?_)
    refine ck_it (fun h => rr_getfr rfl rfl rfl h) (fun h => rr_getfield_no rfl rfl h) (fun h4 => ?_)
    refine Eq.trans (rr_iload_n rfl rfl) ?_
    refine ck_it (fun h => rr_aaload rfl h) (fun h => rr_aaload_no rfl h) (fun h5 => ?_)
    refine Eq.trans (rr_aload_n rfl rfl) ?_
    refine Eq.trans (rr_getfr rfl rfl rfl h3) ?_
    refine Eq.trans (rr_getfr rfl rfl rfl h4) ?_
    refine Eq.trans (rr_iload_n rfl rfl) ?_
    refine ck_it (fun h => rr_aaload rfl h) (fun h => rr_aaload_no rfl h) (fun h6 => ?_)
    refine ck_it (fun h => rr_invV0i (S' := []) (L' := [some (.inr (.inr (am_get ω1 (am_get ω1 (am_get ω1 l0.toNat 0).toNat 4).toNat l1.toNat))), some (.inr (.inr (am_get ω1 (am_get ω1 (am_get ω1 l0.toNat 0).toNat 4).toNat l2.toNat)))]) (m' := (48, 0)) rfl rfl rfl rfl rfl rfl h) (fun h => rr_invV0_no (S' := []) (L' := [some (.inr (.inr (am_get ω1 (am_get ω1 (am_get ω1 l0.toNat 0).toNat 4).toNat l1.toNat))), some (.inr (.inr (am_get ω1 (am_get ω1 (am_get ω1 l0.toNat 0).toNat 4).toNat l2.toNat)))]) (m' := (48, 0)) rfl rfl rfl rfl rfl rfl h) (fun h7 => ?_)
    refine bi_cg (fun z2 ω2 => ?_)
    refine Eq.trans (rr_if_eq rfl rfl) (it_cg (fun _ => ?_) (fun _ => ?_))
    · refine Eq.trans (rr_iconst rfl rfl) ?_
      exact rr_ireturn rfl rfl
    · refine Eq.trans (rr_iconst rfl rfl) ?_
      refine Eq.trans (rr_goto rfl rfl) ?_
      exact rr_ireturn rfl rfl
  · refine Eq.trans (rr_aload_n rfl rfl) ?_
    refine Eq.trans (rr_bipush rfl rfl) ?_
    refine ck_it (fun h => rr_invV0i (S' := []) (L' := [some (.inr (.inr l0)), some (.inl ((-2))), none]) (m' := (128, 0)) rfl rfl rfl rfl rfl rfl h) (fun h => rr_invV0_no (S' := []) (L' := [some (.inr (.inr l0)), some (.inl ((-2))), none]) (m' := (128, 0)) rfl rfl rfl rfl rfl rfl h) (fun h8 => ?_)
    refine bi_cg (fun z3 ω3 => ?_)
    exact rr_ireturn rfl rfl
theorem pX6_judge_0 (l0 l1 l2 l3 : Int) (ω : am_W) (h1 : am_is ω l0 (6, 10) = true) : am_run (104, 0) 0 ([some (.inr (.inr l0)), some (.inl l1), some (.inl l2), some (.inl l3), none], [], ω) = am_bi (am_run (138, 0) 0 ([some (.inr (.inr l0)), some (.inl l2), some (.inl l3)], [], ω)) (fun z1 ω1 => if am_is ω1 l0 (6, 10) = true then (am_bi (am_run (131, 0) 0 ([some (.inr (.inr l0)), some (.inl l1), some (.inl z1), some (.inl l2), none], [], ω1)) (fun z2 ω2 => if z2 = 0 then (if am_is ω2 l0 (6, 10) = true then (if am_ina ω2 (am_get ω2 l0.toNat 4) l1 = true then (am_bi (am_run (133, 0) 0 ([some (.inr (.inr l0)), some (.inr (.inr (am_get ω2 (am_get ω2 l0.toNat 4).toNat l1.toNat))), some (.inl l2), some (.inl l3), none], [], ω2)) (fun z3 ω3 => some (some (.inl z3), ω3))) else none) else none) else (if am_is ω2 l0 (6, 10) = true then (am_bi (am_run (128, 0) 0 ([some (.inr (.inr l0)), some (.inl z2), none], [], ω2)) (fun z4 ω4 => some (some (.inl z4), ω4))) else none))) else none) := by
  refine Eq.trans (rr_aload_n rfl rfl) ?_
  refine Eq.trans (rr_iload_n rfl rfl) ?_
  refine Eq.trans (rr_aload_n rfl rfl) ?_
  refine Eq.trans (rr_iload_n rfl rfl) ?_
  refine Eq.trans (rr_iload_n rfl rfl) ?_
  refine Eq.trans (rr_invV0i (S' := [.inl l1, .inr (.inr l0)]) (L' := [some (.inr (.inr l0)), some (.inl l2), some (.inl l3)]) (m' := (138, 0)) rfl rfl rfl rfl rfl rfl h1) ?_
  refine bi_cg (fun z1 ω1 => ?_)
  refine Eq.trans (rr_iload_n rfl rfl) ?_
  refine ck_it (fun h => rr_invV0i (S' := []) (L' := [some (.inr (.inr l0)), some (.inl l1), some (.inl z1), some (.inl l2), none]) (m' := (131, 0)) rfl rfl rfl rfl rfl rfl h) (fun h => rr_invV0_no (S' := []) (L' := [some (.inr (.inr l0)), some (.inl l1), some (.inl z1), some (.inl l2), none]) (m' := (131, 0)) rfl rfl rfl rfl rfl rfl h) (fun h2 => ?_)
  refine bi_cg (fun z2 ω2 => ?_)
  refine Eq.trans (rr_istore (L' := [some (.inr (.inr l0)), some (.inl l1), some (.inl l2), some (.inl l3), some (.inl z2)]) rfl rfl) ?_
  refine Eq.trans (rr_iload rfl rfl) ?_
  refine Eq.trans (rr_if_eq rfl rfl) (it_cg (fun _ => ?_) (fun _ => ?_))
  · refine Eq.trans (rr_aload_n rfl rfl) ?_
    refine Eq.trans (rr_aload_n rfl rfl) ?_
    refine ck_it (fun h => rr_getfr rfl rfl rfl h) (fun h => rr_getfield_no rfl rfl h) (fun h3 => ?_)
    refine Eq.trans (rr_iload_n rfl rfl) ?_
    refine ck_it (fun h => rr_aaload rfl h) (fun h => rr_aaload_no rfl h) (fun h4 => ?_)
    refine Eq.trans (rr_iload_n rfl rfl) ?_
    refine Eq.trans (rr_iload_n rfl rfl) ?_
    refine Eq.trans (rr_invV0i (S' := []) (L' := [some (.inr (.inr l0)), some (.inr (.inr (am_get ω2 (am_get ω2 l0.toNat 4).toNat l1.toNat))), some (.inl l2), some (.inl l3), none]) (m' := (133, 0)) rfl rfl rfl rfl rfl rfl h3) ?_
    refine bi_cg (fun z3 ω3 => ?_)
    exact rr_ireturn rfl rfl
  · refine Eq.trans (rr_aload_n rfl rfl) ?_
    refine Eq.trans (rr_iload rfl rfl) ?_
    refine ck_it (fun h => rr_invV0i (S' := []) (L' := [some (.inr (.inr l0)), some (.inl z2), none]) (m' := (128, 0)) rfl rfl rfl rfl rfl rfl h) (fun h => rr_invV0_no (S' := []) (L' := [some (.inr (.inr l0)), some (.inl z2), none]) (m' := (128, 0)) rfl rfl rfl rfl rfl rfl h) (fun h5 => ?_)
    refine bi_cg (fun z4 ω4 => ?_)
    refine Eq.trans (rr_goto rfl rfl) ?_
    exact rr_ireturn rfl rfl
theorem pX6_flown_0 (l0 l1 l2 l3 l4 : Int) (ω : am_W) (h1 : am_is ω l0 (6, 10) = true) : am_run (105, 0) 0 ([some (.inr (.inr l0)), some (.inl l1), some (.inl l2), some (.inl l3), some (.inl l4), none], [], ω) = am_bi (am_run (138, 0) 0 ([some (.inr (.inr l0)), some (.inl l2), some (.inl l3)], [], ω)) (fun z1 ω1 => if z1 = 0 then (am_run (105, 0) 26 ([some (.inr (.inr l0)), some (.inl l1), some (.inl l2), some (.inl l3), some (.inl l4), none], [.inl l1, .inr (.inr l0)], ω1)) else (if l4 < 0 then (am_run (105, 0) 26 ([some (.inr (.inr l0)), some (.inl l1), some (.inl l2), some (.inl l3), some (.inl l4), none], [.inl l1, .inr (.inr l0)], ω1)) else (if 3 < l4 then (am_run (105, 0) 26 ([some (.inr (.inr l0)), some (.inl l1), some (.inl l2), some (.inl l3), some (.inl l4), none], [.inl l1, .inr (.inr l0)], ω1)) else (am_run (105, 0) 27 ([some (.inr (.inr l0)), some (.inl l1), some (.inl l2), some (.inl l3), some (.inl l4), none], [.inl 1, .inl l1, .inr (.inr l0)], ω1))))) := by
  refine Eq.trans (rr_aload_n rfl rfl) ?_
  refine Eq.trans (rr_iload_n rfl rfl) ?_
  refine Eq.trans (rr_aload_n rfl rfl) ?_
  refine Eq.trans (rr_iload_n rfl rfl) ?_
  refine Eq.trans (rr_iload_n rfl rfl) ?_
  refine Eq.trans (rr_invV0i (S' := [.inl l1, .inr (.inr l0)]) (L' := [some (.inr (.inr l0)), some (.inl l2), some (.inl l3)]) (m' := (138, 0)) rfl rfl rfl rfl rfl rfl h1) ?_
  refine bi_cg (fun z1 ω1 => ?_)
  refine Eq.trans (rr_if_eq rfl rfl) (it_cg (fun _ => ?_) (fun _ => ?_))
  · rfl
  · refine Eq.trans (rr_iload rfl rfl) ?_
    refine Eq.trans (rr_if_lt rfl rfl) (it_cg (fun _ => ?_) (fun _ => ?_))
    · rfl
    · refine Eq.trans (rr_iload rfl rfl) ?_
      refine Eq.trans (rr_iconst rfl rfl) ?_
      refine Eq.trans (rr_icmp_gt rfl rfl) (it_cg (fun _ => ?_) (fun _ => ?_))
      · rfl
      · refine Eq.trans (rr_iconst rfl rfl) ?_
        refine Eq.trans (rr_goto rfl rfl) ?_
        rfl
theorem pX6_flown_26 (l0 l1 l2 l3 l4 s0 s1 : Int) (o5 : Option am_V) (ω : am_W) : am_run (105, 0) 26 ([some (.inr (.inr l0)), some (.inl l1), some (.inl l2), some (.inl l3), some (.inl l4), o5], [.inl s1, .inr (.inr s0)], ω) = am_run (105, 0) 27 ([some (.inr (.inr l0)), some (.inl l1), some (.inl l2), some (.inl l3), some (.inl l4), o5], [.inl 0, .inl s1, .inr (.inr s0)], ω) := by
  refine Eq.trans (rr_iconst rfl rfl) ?_
  rfl
theorem pX6_flown_27 (l0 l1 l2 l3 l4 s0 s1 s2 : Int) (o5 : Option am_V) (ω : am_W) (h1 : am_is ω s0 (6, 10) = true) : am_run (105, 0) 27 ([some (.inr (.inr l0)), some (.inl l1), some (.inl l2), some (.inl l3), some (.inl l4), o5], [.inl s2, .inl s1, .inr (.inr s0)], ω) = am_bi (am_run (131, 0) 0 ([some (.inr (.inr s0)), some (.inl s1), some (.inl s2), some (.inl l2), none], [], ω)) (fun z1 ω1 => if z1 = 0 then (if am_is ω1 l0 (6, 10) = true then (if am_ina ω1 (am_get ω1 l0.toNat 4) l1 = true then (am_bi (am_run (133, 0) 0 ([some (.inr (.inr l0)), some (.inr (.inr (am_get ω1 (am_get ω1 l0.toNat 4).toNat l1.toNat))), some (.inl l2), some (.inl l3), none], [], ω1)) (fun z2 ω2 => if z2 = ((-1)) then (if l4 = 0 then (if am_is ω2 l0 (6, 10) = true then (if am_is ω2 (am_get ω2 l0.toNat 6) (4, 5) = true then (some (some (.inl (am_get ω2 (am_get ω2 l0.toNat 6).toNat 1)), ω2)) else none) else none) else if l4 = 1 then (if am_is ω2 l0 (6, 10) = true then (if am_is ω2 (am_get ω2 l0.toNat 6) (4, 5) = true then (some (some (.inl (am_get ω2 (am_get ω2 l0.toNat 6).toNat 2)), ω2)) else none) else none) else if l4 = 2 then (if am_is ω2 l0 (6, 10) = true then (if am_is ω2 (am_get ω2 l0.toNat 6) (4, 5) = true then (some (some (.inl (am_get ω2 (am_get ω2 l0.toNat 6).toNat 3)), ω2)) else none) else none) else (if am_is ω2 l0 (6, 10) = true then (if am_is ω2 (am_get ω2 l0.toNat 6) (4, 5) = true then (some (some (.inl (am_get ω2 (am_get ω2 l0.toNat 6).toNat 4)), ω2)) else none) else none)) else (if am_is ω2 l0 (6, 10) = true then (am_bi (am_run (128, 0) 0 ([some (.inr (.inr l0)), some (.inl ((-5))), none], [], ω2)) (fun z3 ω3 => some (some (.inl z3), ω3))) else none))) else none) else none) else (if am_is ω1 l0 (6, 10) = true then (am_bi (am_run (128, 0) 0 ([some (.inr (.inr l0)), some (.inl z1), none], [], ω1)) (fun z4 ω4 => some (some (.inl z4), ω4))) else none)) := by
  refine Eq.trans (rr_iload_n rfl rfl) ?_
  refine Eq.trans (rr_invV0i (S' := []) (L' := [some (.inr (.inr s0)), some (.inl s1), some (.inl s2), some (.inl l2), none]) (m' := (131, 0)) rfl rfl rfl rfl rfl rfl h1) ?_
  refine bi_cg (fun z1 ω1 => ?_)
  refine Eq.trans (rr_istore (L' := [some (.inr (.inr l0)), some (.inl l1), some (.inl l2), some (.inl l3), some (.inl l4), some (.inl z1)]) rfl rfl) ?_
  refine Eq.trans (rr_iload rfl rfl) ?_
  refine Eq.trans (rr_if_eq rfl rfl) (it_cg (fun _ => ?_) (fun _ => ?_))
  · refine Eq.trans (rr_aload_n rfl rfl) ?_
    refine Eq.trans (rr_aload_n rfl rfl) ?_
    refine ck_it (fun h => rr_getfr rfl rfl rfl h) (fun h => rr_getfield_no rfl rfl h) (fun h2 => ?_)
    refine Eq.trans (rr_iload_n rfl rfl) ?_
    refine ck_it (fun h => rr_aaload rfl h) (fun h => rr_aaload_no rfl h) (fun h3 => ?_)
    refine Eq.trans (rr_iload_n rfl rfl) ?_
    refine Eq.trans (rr_iload_n rfl rfl) ?_
    refine Eq.trans (rr_invV0i (S' := []) (L' := [some (.inr (.inr l0)), some (.inr (.inr (am_get ω1 (am_get ω1 l0.toNat 4).toNat l1.toNat))), some (.inl l2), some (.inl l3), none]) (m' := (133, 0)) rfl rfl rfl rfl rfl rfl h2) ?_
    refine bi_cg (fun z2 ω2 => ?_)
    refine Eq.trans (rr_iconst rfl rfl) ?_
    refine Eq.trans (rr_icmp_eq rfl rfl) (it_cg (fun _ => ?_) (fun _ => ?_))
    · refine Eq.trans (rr_iload rfl rfl) ?_
      refine sw_it (fun q4 => Eq.trans (rr_tsw rfl (by rw [q4]; rfl) rfl) ?_) (fun q4 => ?_)
      · refine Eq.trans (rr_aload_n rfl rfl) ?_
        refine ck_it (fun h => rr_getfr rfl rfl rfl h) (fun h => rr_getfield_no rfl rfl h) (fun h5 => ?_)
        refine ck_it (fun h => rr_getfi rfl rfl rfl h) (fun h => rr_getfield_no rfl rfl h) (fun h6 => ?_)
        exact rr_ireturn rfl rfl
      refine sw_it (fun q7 => Eq.trans (rr_tsw rfl (by rw [q7]; rfl) rfl) ?_) (fun q7 => ?_)
      · refine Eq.trans (rr_aload_n rfl rfl) ?_
        refine ck_it (fun h => rr_getfr rfl rfl rfl h) (fun h => rr_getfield_no rfl rfl h) (fun h8 => ?_)
        refine ck_it (fun h => rr_getfi rfl rfl rfl h) (fun h => rr_getfield_no rfl rfl h) (fun h9 => ?_)
        exact rr_ireturn rfl rfl
      refine sw_it (fun q10 => Eq.trans (rr_tsw rfl (by rw [q10]; rfl) rfl) ?_) (fun q10 => ?_)
      · refine Eq.trans (rr_aload_n rfl rfl) ?_
        refine ck_it (fun h => rr_getfr rfl rfl rfl h) (fun h => rr_getfield_no rfl rfl h) (fun h11 => ?_)
        refine ck_it (fun h => rr_getfi rfl rfl rfl h) (fun h => rr_getfield_no rfl rfl h) (fun h12 => ?_)
        exact rr_ireturn rfl rfl
      refine Eq.trans (rr_tsw rfl (am_tsw_out (by omega)) rfl) ?_
      refine Eq.trans (rr_aload_n rfl rfl) ?_
      refine ck_it (fun h => rr_getfr rfl rfl rfl h) (fun h => rr_getfield_no rfl rfl h) (fun h13 => ?_)
      refine ck_it (fun h => rr_getfi rfl rfl rfl h) (fun h => rr_getfield_no rfl rfl h) (fun h14 => ?_)
      exact rr_ireturn rfl rfl
    · refine Eq.trans (rr_aload_n rfl rfl) ?_
      refine Eq.trans (rr_bipush rfl rfl) ?_
      refine ck_it (fun h => rr_invV0i (S' := []) (L' := [some (.inr (.inr l0)), some (.inl ((-5))), none]) (m' := (128, 0)) rfl rfl rfl rfl rfl rfl h) (fun h => rr_invV0_no (S' := []) (L' := [some (.inr (.inr l0)), some (.inl ((-5))), none]) (m' := (128, 0)) rfl rfl rfl rfl rfl rfl h) (fun h15 => ?_)
      refine bi_cg (fun z3 ω3 => ?_)
      exact rr_ireturn rfl rfl
  · refine Eq.trans (rr_aload_n rfl rfl) ?_
    refine Eq.trans (rr_iload rfl rfl) ?_
    refine ck_it (fun h => rr_invV0i (S' := []) (L' := [some (.inr (.inr l0)), some (.inl z1), none]) (m' := (128, 0)) rfl rfl rfl rfl rfl rfl h) (fun h => rr_invV0_no (S' := []) (L' := [some (.inr (.inr l0)), some (.inl z1), none]) (m' := (128, 0)) rfl rfl rfl rfl rfl rfl h) (fun h16 => ?_)
    refine bi_cg (fun z4 ω4 => ?_)
    exact rr_ireturn rfl rfl
theorem pX6_met_0 (l0 l1 l2 l3 l4 : Int) (ω : am_W) (h1 : am_is ω l0 (6, 10) = true) : am_run (106, 0) 0 ([some (.inr (.inr l0)), some (.inl l1), some (.inl l2), some (.inl l3), some (.inl l4), none], [], ω) = am_bi (am_run (138, 0) 0 ([some (.inr (.inr l0)), some (.inl l2), some (.inl l3)], [], ω)) (fun z1 ω1 => if z1 = 0 then (am_run (106, 0) 28 ([some (.inr (.inr l0)), some (.inl l1), some (.inl l2), some (.inl l3), some (.inl l4), none], [.inl l1, .inr (.inr l0)], ω1)) else (if am_is ω1 l0 (6, 10) = true then (if am_is ω1 (am_get ω1 l0.toNat 0) (5, 8) = true then (am_bi (am_run (59, 0) 0 ([some (.inr (.inr (am_get ω1 l0.toNat 0))), some (.inl l3), some (.inl l4)], [], ω1)) (fun z2 ω2 => if z2 = 0 then (am_run (106, 0) 28 ([some (.inr (.inr l0)), some (.inl l1), some (.inl l2), some (.inl l3), some (.inl l4), none], [.inl l1, .inr (.inr l0)], ω2)) else (am_run (106, 0) 29 ([some (.inr (.inr l0)), some (.inl l1), some (.inl l2), some (.inl l3), some (.inl l4), none], [.inl 1, .inl l1, .inr (.inr l0)], ω2)))) else none) else none)) := by
  refine Eq.trans (rr_aload_n rfl rfl) ?_
  refine Eq.trans (rr_iload_n rfl rfl) ?_
  refine Eq.trans (rr_aload_n rfl rfl) ?_
  refine Eq.trans (rr_iload_n rfl rfl) ?_
  refine Eq.trans (rr_iload_n rfl rfl) ?_
  refine Eq.trans (rr_invV0i (S' := [.inl l1, .inr (.inr l0)]) (L' := [some (.inr (.inr l0)), some (.inl l2), some (.inl l3)]) (m' := (138, 0)) rfl rfl rfl rfl rfl rfl h1) ?_
  refine bi_cg (fun z1 ω1 => ?_)
  refine Eq.trans (rr_if_eq rfl rfl) (it_cg (fun _ => ?_) (fun _ => ?_))
  · rfl
  · refine Eq.trans (rr_aload_n rfl rfl) ?_
    refine ck_it (fun h => rr_getfr rfl rfl rfl h) (fun h => rr_getfield_no rfl rfl h) (fun h2 => ?_)
    refine Eq.trans (rr_iload_n rfl rfl) ?_
    refine Eq.trans (rr_iload rfl rfl) ?_
    refine ck_it (fun h => rr_invV0i (S' := [.inl l1, .inr (.inr l0)]) (L' := [some (.inr (.inr (am_get ω1 l0.toNat 0))), some (.inl l3), some (.inl l4)]) (m' := (59, 0)) rfl rfl rfl rfl rfl rfl h) (fun h => rr_invV0_no (S' := [.inl l1, .inr (.inr l0)]) (L' := [some (.inr (.inr (am_get ω1 l0.toNat 0))), some (.inl l3), some (.inl l4)]) (m' := (59, 0)) rfl rfl rfl rfl rfl rfl h) (fun h3 => ?_)
    refine bi_cg (fun z2 ω2 => ?_)
    refine Eq.trans (rr_if_eq rfl rfl) (it_cg (fun _ => ?_) (fun _ => ?_))
    · rfl
    · refine Eq.trans (rr_iconst rfl rfl) ?_
      refine Eq.trans (rr_goto rfl rfl) ?_
      rfl
theorem pX6_met_28 (l0 l1 l2 l3 l4 s0 s1 : Int) (o5 : Option am_V) (ω : am_W) : am_run (106, 0) 28 ([some (.inr (.inr l0)), some (.inl l1), some (.inl l2), some (.inl l3), some (.inl l4), o5], [.inl s1, .inr (.inr s0)], ω) = am_run (106, 0) 29 ([some (.inr (.inr l0)), some (.inl l1), some (.inl l2), some (.inl l3), some (.inl l4), o5], [.inl 0, .inl s1, .inr (.inr s0)], ω) := by
  refine Eq.trans (rr_iconst rfl rfl) ?_
  rfl
theorem pX6_met_29 (l0 l1 l2 l3 l4 s0 s1 s2 : Int) (o5 : Option am_V) (ω : am_W) (h1 : am_is ω s0 (6, 10) = true) : am_run (106, 0) 29 ([some (.inr (.inr l0)), some (.inl l1), some (.inl l2), some (.inl l3), some (.inl l4), o5], [.inl s2, .inl s1, .inr (.inr s0)], ω) = am_bi (am_run (131, 0) 0 ([some (.inr (.inr s0)), some (.inl s1), some (.inl s2), some (.inl l2), none], [], ω)) (fun z1 ω1 => if z1 = 0 then (if am_is ω1 l0 (6, 10) = true then (if am_ina ω1 (am_get ω1 l0.toNat 4) l1 = true then (am_bi (am_run (133, 0) 0 ([some (.inr (.inr l0)), some (.inr (.inr (am_get ω1 (am_get ω1 l0.toNat 4).toNat l1.toNat))), some (.inl l2), some (.inl l3), none], [], ω1)) (fun z2 ω2 => if z2 = ((-1)) then (if am_is ω2 l0 (6, 10) = true then (if am_ina ω2 (am_get ω2 l0.toNat 4) l1 = true then (am_bi (am_run (134, 0) 0 ([some (.inr (.inr l0)), some (.inr (.inr (am_get ω2 (am_get ω2 l0.toNat 4).toNat l1.toNat))), some (.inl l2), some (.inl l3), some (.inl l4), none], [], ω2)) (fun z3 ω3 => some (some (.inl z3), ω3))) else none) else none) else (if am_is ω2 l0 (6, 10) = true then (am_bi (am_run (128, 0) 0 ([some (.inr (.inr l0)), some (.inl ((-5))), none], [], ω2)) (fun z4 ω4 => some (some (.inl z4), ω4))) else none))) else none) else none) else (if am_is ω1 l0 (6, 10) = true then (am_bi (am_run (128, 0) 0 ([some (.inr (.inr l0)), some (.inl z1), none], [], ω1)) (fun z5 ω5 => some (some (.inl z5), ω5))) else none)) := by
  refine Eq.trans (rr_iload_n rfl rfl) ?_
  refine Eq.trans (rr_invV0i (S' := []) (L' := [some (.inr (.inr s0)), some (.inl s1), some (.inl s2), some (.inl l2), none]) (m' := (131, 0)) rfl rfl rfl rfl rfl rfl h1) ?_
  refine bi_cg (fun z1 ω1 => ?_)
  refine Eq.trans (rr_istore (L' := [some (.inr (.inr l0)), some (.inl l1), some (.inl l2), some (.inl l3), some (.inl l4), some (.inl z1)]) rfl rfl) ?_
  refine Eq.trans (rr_iload rfl rfl) ?_
  refine Eq.trans (rr_if_eq rfl rfl) (it_cg (fun _ => ?_) (fun _ => ?_))
  · refine Eq.trans (rr_aload_n rfl rfl) ?_
    refine Eq.trans (rr_aload_n rfl rfl) ?_
    refine ck_it (fun h => rr_getfr rfl rfl rfl h) (fun h => rr_getfield_no rfl rfl h) (fun h2 => ?_)
    refine Eq.trans (rr_iload_n rfl rfl) ?_
    refine ck_it (fun h => rr_aaload rfl h) (fun h => rr_aaload_no rfl h) (fun h3 => ?_)
    refine Eq.trans (rr_iload_n rfl rfl) ?_
    refine Eq.trans (rr_iload_n rfl rfl) ?_
    refine Eq.trans (rr_invV0i (S' := []) (L' := [some (.inr (.inr l0)), some (.inr (.inr (am_get ω1 (am_get ω1 l0.toNat 4).toNat l1.toNat))), some (.inl l2), some (.inl l3), none]) (m' := (133, 0)) rfl rfl rfl rfl rfl rfl h2) ?_
    refine bi_cg (fun z2 ω2 => ?_)
    refine Eq.trans (rr_iconst rfl rfl) ?_
    refine Eq.trans (rr_icmp_eq rfl rfl) (it_cg (fun _ => ?_) (fun _ => ?_))
    · refine Eq.trans (rr_aload_n rfl rfl) ?_
      refine Eq.trans (rr_aload_n rfl rfl) ?_
      refine ck_it (fun h => rr_getfr rfl rfl rfl h) (fun h => rr_getfield_no rfl rfl h) (fun h4 => ?_)
      refine Eq.trans (rr_iload_n rfl rfl) ?_
      refine ck_it (fun h => rr_aaload rfl h) (fun h => rr_aaload_no rfl h) (fun h5 => ?_)
      refine Eq.trans (rr_iload_n rfl rfl) ?_
      refine Eq.trans (rr_iload_n rfl rfl) ?_
      refine Eq.trans (rr_iload rfl rfl) ?_
      refine Eq.trans (rr_invV0i (S' := []) (L' := [some (.inr (.inr l0)), some (.inr (.inr (am_get ω2 (am_get ω2 l0.toNat 4).toNat l1.toNat))), some (.inl l2), some (.inl l3), some (.inl l4), none]) (m' := (134, 0)) rfl rfl rfl rfl rfl rfl h4) ?_
      refine bi_cg (fun z3 ω3 => ?_)
      exact rr_ireturn rfl rfl
    · refine Eq.trans (rr_aload_n rfl rfl) ?_
      refine Eq.trans (rr_bipush rfl rfl) ?_
      refine ck_it (fun h => rr_invV0i (S' := []) (L' := [some (.inr (.inr l0)), some (.inl ((-5))), none]) (m' := (128, 0)) rfl rfl rfl rfl rfl rfl h) (fun h => rr_invV0_no (S' := []) (L' := [some (.inr (.inr l0)), some (.inl ((-5))), none]) (m' := (128, 0)) rfl rfl rfl rfl rfl rfl h) (fun h6 => ?_)
      refine bi_cg (fun z4 ω4 => ?_)
      exact rr_ireturn rfl rfl
  · refine Eq.trans (rr_aload_n rfl rfl) ?_
    refine Eq.trans (rr_iload rfl rfl) ?_
    refine ck_it (fun h => rr_invV0i (S' := []) (L' := [some (.inr (.inr l0)), some (.inl z1), none]) (m' := (128, 0)) rfl rfl rfl rfl rfl rfl h) (fun h => rr_invV0_no (S' := []) (L' := [some (.inr (.inr l0)), some (.inl z1), none]) (m' := (128, 0)) rfl rfl rfl rfl rfl rfl h) (fun h7 => ?_)
    refine bi_cg (fun z5 ω5 => ?_)
    exact rr_ireturn rfl rfl
theorem pX6_cheapest_0 (l0 l1 l2 l3 : Int) (ω : am_W) (h1 : am_is ω l0 (6, 10) = true) (h2 : am_is ω (am_get ω l0.toNat 0) (5, 8) = true) : am_run (107, 0) 0 ([some (.inr (.inr l0)), some (.inl l1), some (.inl l2), some (.inl l3)], [], ω) = am_bi (am_run (59, 0) 0 ([some (.inr (.inr (am_get ω l0.toNat 0))), some (.inl l1), some (.inl l2)], [], ω)) (fun z1 ω1 => if z1 = 0 then (if am_is ω1 l0 (6, 10) = true then (am_bi (am_run (128, 0) 0 ([some (.inr (.inr l0)), some (.inl ((-2))), none], [], ω1)) (fun z2 ω2 => some (some (.inl z2), ω2))) else none) else (am_bi (am_run (144, 0) 0 ([some (.inl l3)], [], ω1)) (fun z3 ω3 => if ¬ z3 = 0 then (if am_is ω3 l0 (6, 10) = true then (am_ba (am_run (139, 0) 0 ([some (.inr (.inr l0))], [], ω3)) (fun z4 ω4 => if am_is ω4 l0 (6, 10) = true then (if am_is ω4 (am_get ω4 l0.toNat 0) (5, 8) = true then (if am_ina ω4 (am_get ω4 (am_get ω4 l0.toNat 0).toNat 4) l1 = true then (if am_is ω4 z4 (1, 15) = true then (am_bi (am_run (5, 0) 0 ([some (.inr (.inr z4)), some (.inr (.inr (am_get ω4 (am_get ω4 (am_get ω4 l0.toNat 0).toNat 4).toNat l1.toNat))), some (.inl (am_shl 1 l2)), some (.inl l3), none], [], ω4)) (fun z5 ω5 => some (some (.inl z5), ω5))) else none) else none) else none) else none)) else none) else (if am_is ω3 l0 (6, 10) = true then (am_bi (am_run (128, 0) 0 ([some (.inr (.inr l0)), some (.inl ((-2))), none], [], ω3)) (fun z6 ω6 => some (some (.inl z6), ω6))) else none)))) := by
  refine Eq.trans (rr_aload_n rfl rfl) ?_
  refine Eq.trans (rr_getfr rfl rfl rfl h1) ?_
  refine Eq.trans (rr_iload_n rfl rfl) ?_
  refine Eq.trans (rr_iload_n rfl rfl) ?_
  refine Eq.trans (rr_invV0i (S' := []) (L' := [some (.inr (.inr (am_get ω l0.toNat 0))), some (.inl l1), some (.inl l2)]) (m' := (59, 0)) rfl rfl rfl rfl rfl rfl h2) ?_
  refine bi_cg (fun z1 ω1 => ?_)
  refine Eq.trans (rr_if_eq rfl rfl) (it_cg (fun _ => ?_) (fun _ => ?_))
  · refine Eq.trans (rr_aload_n rfl rfl) ?_
    refine Eq.trans (rr_bipush rfl rfl) ?_
    refine ck_it (fun h => rr_invV0i (S' := []) (L' := [some (.inr (.inr l0)), some (.inl ((-2))), none]) (m' := (128, 0)) rfl rfl rfl rfl rfl rfl h) (fun h => rr_invV0_no (S' := []) (L' := [some (.inr (.inr l0)), some (.inl ((-2))), none]) (m' := (128, 0)) rfl rfl rfl rfl rfl rfl h) (fun h3 => ?_)
    refine bi_cg (fun z2 ω2 => ?_)
    exact rr_ireturn rfl rfl
  · refine Eq.trans (rr_iload_n rfl rfl) ?_
    refine Eq.trans (rr_invS2i (S' := []) (L' := [some (.inl l3)]) (m' := (144, 0)) rfl rfl rfl rfl rfl rfl) ?_
    refine bi_cg (fun z3 ω3 => ?_)
    refine Eq.trans (rr_if_ne rfl rfl) (it_cg (fun _ => ?_) (fun _ => ?_))
    · refine Eq.trans (rr_aload_n rfl rfl) ?_
      refine ck_it (fun h => rr_invV0a (S' := []) (L' := [some (.inr (.inr l0))]) (m' := (139, 0)) rfl rfl rfl rfl rfl rfl h) (fun h => rr_invV0_no (S' := []) (L' := [some (.inr (.inr l0))]) (m' := (139, 0)) rfl rfl rfl rfl rfl rfl h) (fun h4 => ?_)
      refine ba_cg (fun z4 ω4 => ?_)
      refine Eq.trans (rr_aload_n rfl rfl) ?_
      refine ck_it (fun h => rr_getfr rfl rfl rfl h) (fun h => rr_getfield_no rfl rfl h) (fun h5 => ?_)
      refine ck_it (fun h => rr_getfr rfl rfl rfl h) (fun h => rr_getfield_no rfl rfl h) (fun h6 => ?_)
      refine Eq.trans (rr_iload_n rfl rfl) ?_
      refine ck_it (fun h => rr_aaload rfl h) (fun h => rr_aaload_no rfl h) (fun h7 => ?_)
      refine Eq.trans (rr_iconst rfl rfl) ?_
      refine Eq.trans (rr_iload_n rfl rfl) ?_
      refine Eq.trans (rr_ishl rfl) ?_
      refine Eq.trans (rr_iload_n rfl rfl) ?_
      refine ck_it (fun h => rr_invV0i (S' := []) (L' := [some (.inr (.inr z4)), some (.inr (.inr (am_get ω4 (am_get ω4 (am_get ω4 l0.toNat 0).toNat 4).toNat l1.toNat))), some (.inl (am_shl 1 l2)), some (.inl l3), none]) (m' := (5, 0)) rfl rfl rfl rfl rfl rfl h) (fun h => rr_invV0_no (S' := []) (L' := [some (.inr (.inr z4)), some (.inr (.inr (am_get ω4 (am_get ω4 (am_get ω4 l0.toNat 0).toNat 4).toNat l1.toNat))), some (.inl (am_shl 1 l2)), some (.inl l3), none]) (m' := (5, 0)) rfl rfl rfl rfl rfl rfl h) (fun h8 => ?_)
      refine bi_cg (fun z5 ω5 => ?_)
      exact rr_ireturn rfl rfl
    · refine Eq.trans (rr_aload_n rfl rfl) ?_
      refine Eq.trans (rr_bipush rfl rfl) ?_
      refine ck_it (fun h => rr_invV0i (S' := []) (L' := [some (.inr (.inr l0)), some (.inl ((-2))), none]) (m' := (128, 0)) rfl rfl rfl rfl rfl rfl h) (fun h => rr_invV0_no (S' := []) (L' := [some (.inr (.inr l0)), some (.inl ((-2))), none]) (m' := (128, 0)) rfl rfl rfl rfl rfl rfl h) (fun h9 => ?_)
      refine bi_cg (fun z6 ω6 => ?_)
      exact rr_ireturn rfl rfl
theorem pX6_soonest_0 (l0 l1 l2 : Int) (ω : am_W) (h1 : am_is ω l0 (6, 10) = true) (h2 : am_is ω (am_get ω l0.toNat 0) (5, 8) = true) : am_run (108, 0) 0 ([some (.inr (.inr l0)), some (.inl l1), some (.inl l2)], [], ω) = am_bi (am_run (59, 0) 0 ([some (.inr (.inr (am_get ω l0.toNat 0))), some (.inl l1), some (.inl l2)], [], ω)) (fun z1 ω1 => if ¬ z1 = 0 then (if am_is ω1 l0 (6, 10) = true then (am_ba (am_run (139, 0) 0 ([some (.inr (.inr l0))], [], ω1)) (fun z2 ω2 => if am_is ω2 l0 (6, 10) = true then (if am_is ω2 (am_get ω2 l0.toNat 0) (5, 8) = true then (if am_ina ω2 (am_get ω2 (am_get ω2 l0.toNat 0).toNat 4) l1 = true then (if am_is ω2 z2 (1, 15) = true then (am_bi (am_run (6, 0) 0 ([some (.inr (.inr z2)), some (.inr (.inr (am_get ω2 (am_get ω2 (am_get ω2 l0.toNat 0).toNat 4).toNat l1.toNat))), some (.inl (am_shl 1 l2)), none], [], ω2)) (fun z3 ω3 => some (some (.inl z3), ω3))) else none) else none) else none) else none)) else none) else (if am_is ω1 l0 (6, 10) = true then (am_bi (am_run (128, 0) 0 ([some (.inr (.inr l0)), some (.inl ((-2))), none], [], ω1)) (fun z4 ω4 => some (some (.inl z4), ω4))) else none)) := by
  refine Eq.trans (rr_aload_n rfl rfl) ?_
  refine Eq.trans (rr_getfr rfl rfl rfl h1) ?_
  refine Eq.trans (rr_iload_n rfl rfl) ?_
  refine Eq.trans (rr_iload_n rfl rfl) ?_
  refine Eq.trans (rr_invV0i (S' := []) (L' := [some (.inr (.inr (am_get ω l0.toNat 0))), some (.inl l1), some (.inl l2)]) (m' := (59, 0)) rfl rfl rfl rfl rfl rfl h2) ?_
  refine bi_cg (fun z1 ω1 => ?_)
  refine Eq.trans (rr_if_ne rfl rfl) (it_cg (fun _ => ?_) (fun _ => ?_))
  · refine Eq.trans (rr_aload_n rfl rfl) ?_
    refine ck_it (fun h => rr_invV0a (S' := []) (L' := [some (.inr (.inr l0))]) (m' := (139, 0)) rfl rfl rfl rfl rfl rfl h) (fun h => rr_invV0_no (S' := []) (L' := [some (.inr (.inr l0))]) (m' := (139, 0)) rfl rfl rfl rfl rfl rfl h) (fun h3 => ?_)
    refine ba_cg (fun z2 ω2 => ?_)
    refine Eq.trans (rr_aload_n rfl rfl) ?_
    refine ck_it (fun h => rr_getfr rfl rfl rfl h) (fun h => rr_getfield_no rfl rfl h) (fun h4 => ?_)
    refine ck_it (fun h => rr_getfr rfl rfl rfl h) (fun h => rr_getfield_no rfl rfl h) (fun h5 => ?_)
    refine Eq.trans (rr_iload_n rfl rfl) ?_
    refine ck_it (fun h => rr_aaload rfl h) (fun h => rr_aaload_no rfl h) (fun h6 => ?_)
    refine Eq.trans (rr_iconst rfl rfl) ?_
    refine Eq.trans (rr_iload_n rfl rfl) ?_
    refine Eq.trans (rr_ishl rfl) ?_
    refine ck_it (fun h => rr_invV0i (S' := []) (L' := [some (.inr (.inr z2)), some (.inr (.inr (am_get ω2 (am_get ω2 (am_get ω2 l0.toNat 0).toNat 4).toNat l1.toNat))), some (.inl (am_shl 1 l2)), none]) (m' := (6, 0)) rfl rfl rfl rfl rfl rfl h) (fun h => rr_invV0_no (S' := []) (L' := [some (.inr (.inr z2)), some (.inr (.inr (am_get ω2 (am_get ω2 (am_get ω2 l0.toNat 0).toNat 4).toNat l1.toNat))), some (.inl (am_shl 1 l2)), none]) (m' := (6, 0)) rfl rfl rfl rfl rfl rfl h) (fun h7 => ?_)
    refine bi_cg (fun z3 ω3 => ?_)
    exact rr_ireturn rfl rfl
  · refine Eq.trans (rr_aload_n rfl rfl) ?_
    refine Eq.trans (rr_bipush rfl rfl) ?_
    refine ck_it (fun h => rr_invV0i (S' := []) (L' := [some (.inr (.inr l0)), some (.inl ((-2))), none]) (m' := (128, 0)) rfl rfl rfl rfl rfl rfl h) (fun h => rr_invV0_no (S' := []) (L' := [some (.inr (.inr l0)), some (.inl ((-2))), none]) (m' := (128, 0)) rfl rfl rfl rfl rfl rfl h) (fun h8 => ?_)
    refine bi_cg (fun z4 ω4 => ?_)
    exact rr_ireturn rfl rfl
theorem pX6_way_0 (l0 l1 l2 l3 : Int) (ω : am_W) (h1 : am_is ω l0 (6, 10) = true) (h2 : am_is ω (am_get ω l0.toNat 0) (5, 8) = true) : am_run (109, 0) 0 ([some (.inr (.inr l0)), some (.inl l1), some (.inl l2), some (.inl l3), none], [], ω) = am_bi (am_run (59, 0) 0 ([some (.inr (.inr (am_get ω l0.toNat 0))), some (.inl l1), some (.inl l2)], [], ω)) (fun z1 ω1 => if z1 = 0 then (if am_is ω1 l0 (6, 10) = true then (am_bi (am_run (128, 0) 0 ([some (.inr (.inr l0)), some (.inl ((-2))), none], [], ω1)) (fun z2 ω2 => some (some (.inl z2), ω2))) else none) else (if 0 ≤ l3 then (if am_is ω1 l0 (6, 10) = true then (am_ba (am_run (139, 0) 0 ([some (.inr (.inr l0))], [], ω1)) (fun z3 ω3 => if am_is ω3 l0 (6, 10) = true then (if am_is ω3 (am_get ω3 l0.toNat 0) (5, 8) = true then (if am_ina ω3 (am_get ω3 (am_get ω3 l0.toNat 0).toNat 4) l1 = true then (if am_is ω3 z3 (1, 15) = true then (am_bi (am_run (17, 0) 0 ([some (.inr (.inr z3)), some (.inr (.inr (am_get ω3 (am_get ω3 (am_get ω3 l0.toNat 0).toNat 4).toNat l1.toNat))), some (.inl l2), some (.inl l3), none, none, none, none, none, none], [], ω3)) (fun z4 ω4 => if ¬ z4 = ((-1)) then (some (some (.inl z4), ω4)) else (if am_is ω4 l0 (6, 10) = true then (am_bi (am_run (128, 0) 0 ([some (.inr (.inr l0)), some (.inl ((-5))), none], [], ω4)) (fun z5 ω5 => some (some (.inl z5), ω5))) else none))) else none) else none) else none) else none)) else none) else (if am_is ω1 l0 (6, 10) = true then (am_bi (am_run (128, 0) 0 ([some (.inr (.inr l0)), some (.inl ((-2))), none], [], ω1)) (fun z6 ω6 => some (some (.inl z6), ω6))) else none))) := by
  refine Eq.trans (rr_aload_n rfl rfl) ?_
  refine Eq.trans (rr_getfr rfl rfl rfl h1) ?_
  refine Eq.trans (rr_iload_n rfl rfl) ?_
  refine Eq.trans (rr_iload_n rfl rfl) ?_
  refine Eq.trans (rr_invV0i (S' := []) (L' := [some (.inr (.inr (am_get ω l0.toNat 0))), some (.inl l1), some (.inl l2)]) (m' := (59, 0)) rfl rfl rfl rfl rfl rfl h2) ?_
  refine bi_cg (fun z1 ω1 => ?_)
  refine Eq.trans (rr_if_eq rfl rfl) (it_cg (fun _ => ?_) (fun _ => ?_))
  · refine Eq.trans (rr_aload_n rfl rfl) ?_
    refine Eq.trans (rr_bipush rfl rfl) ?_
    refine ck_it (fun h => rr_invV0i (S' := []) (L' := [some (.inr (.inr l0)), some (.inl ((-2))), none]) (m' := (128, 0)) rfl rfl rfl rfl rfl rfl h) (fun h => rr_invV0_no (S' := []) (L' := [some (.inr (.inr l0)), some (.inl ((-2))), none]) (m' := (128, 0)) rfl rfl rfl rfl rfl rfl h) (fun h3 => ?_)
    refine bi_cg (fun z2 ω2 => ?_)
    exact rr_ireturn rfl rfl
  · refine Eq.trans (rr_iload_n rfl rfl) ?_
    refine Eq.trans (rr_if_ge rfl rfl) (it_cg (fun _ => ?_) (fun _ => ?_))
    · refine Eq.trans (rr_aload_n rfl rfl) ?_
      refine ck_it (fun h => rr_invV0a (S' := []) (L' := [some (.inr (.inr l0))]) (m' := (139, 0)) rfl rfl rfl rfl rfl rfl h) (fun h => rr_invV0_no (S' := []) (L' := [some (.inr (.inr l0))]) (m' := (139, 0)) rfl rfl rfl rfl rfl rfl h) (fun h4 => ?_)
      refine ba_cg (fun z3 ω3 => ?_)
      refine Eq.trans (rr_aload_n rfl rfl) ?_
      refine ck_it (fun h => rr_getfr rfl rfl rfl h) (fun h => rr_getfield_no rfl rfl h) (fun h5 => ?_)
      refine ck_it (fun h => rr_getfr rfl rfl rfl h) (fun h => rr_getfield_no rfl rfl h) (fun h6 => ?_)
      refine Eq.trans (rr_iload_n rfl rfl) ?_
      refine ck_it (fun h => rr_aaload rfl h) (fun h => rr_aaload_no rfl h) (fun h7 => ?_)
      refine Eq.trans (rr_iload_n rfl rfl) ?_
      refine Eq.trans (rr_iload_n rfl rfl) ?_
      refine ck_it (fun h => rr_invV0i (S' := []) (L' := [some (.inr (.inr z3)), some (.inr (.inr (am_get ω3 (am_get ω3 (am_get ω3 l0.toNat 0).toNat 4).toNat l1.toNat))), some (.inl l2), some (.inl l3), none, none, none, none, none, none]) (m' := (17, 0)) rfl rfl rfl rfl rfl rfl h) (fun h => rr_invV0_no (S' := []) (L' := [some (.inr (.inr z3)), some (.inr (.inr (am_get ω3 (am_get ω3 (am_get ω3 l0.toNat 0).toNat 4).toNat l1.toNat))), some (.inl l2), some (.inl l3), none, none, none, none, none, none]) (m' := (17, 0)) rfl rfl rfl rfl rfl rfl h) (fun h8 => ?_)
      refine bi_cg (fun z4 ω4 => ?_)
      refine Eq.trans (rr_istore (L' := [some (.inr (.inr l0)), some (.inl l1), some (.inl l2), some (.inl l3), some (.inl z4)]) rfl rfl) ?_
      refine Eq.trans (rr_iload rfl rfl) ?_
      refine Eq.trans (rr_iconst rfl rfl) ?_
      refine Eq.trans (rr_icmp_ne rfl rfl) (it_cg (fun _ => ?_) (fun _ => ?_))
      · refine Eq.trans (rr_iload rfl rfl) ?_
        exact rr_ireturn rfl rfl
      · refine Eq.trans (rr_aload_n rfl rfl) ?_
        refine Eq.trans (rr_bipush rfl rfl) ?_
        refine ck_it (fun h => rr_invV0i (S' := []) (L' := [some (.inr (.inr l0)), some (.inl ((-5))), none]) (m' := (128, 0)) rfl rfl rfl rfl rfl rfl h) (fun h => rr_invV0_no (S' := []) (L' := [some (.inr (.inr l0)), some (.inl ((-5))), none]) (m' := (128, 0)) rfl rfl rfl rfl rfl rfl h) (fun h9 => ?_)
        refine bi_cg (fun z5 ω5 => ?_)
        refine Eq.trans (rr_goto rfl rfl) ?_
        exact rr_ireturn rfl rfl
    · refine Eq.trans (rr_aload_n rfl rfl) ?_
      refine Eq.trans (rr_bipush rfl rfl) ?_
      refine ck_it (fun h => rr_invV0i (S' := []) (L' := [some (.inr (.inr l0)), some (.inl ((-2))), none]) (m' := (128, 0)) rfl rfl rfl rfl rfl rfl h) (fun h => rr_invV0_no (S' := []) (L' := [some (.inr (.inr l0)), some (.inl ((-2))), none]) (m' := (128, 0)) rfl rfl rfl rfl rfl rfl h) (fun h10 => ?_)
      refine bi_cg (fun z6 ω6 => ?_)
      exact rr_ireturn rfl rfl
theorem pX6_round_0 (l0 l1 l2 l3 : Int) (ω : am_W) (h1 : am_is ω l0 (6, 10) = true) (h2 : am_is ω (am_get ω l0.toNat 0) (5, 8) = true) : am_run (110, 0) 0 ([some (.inr (.inr l0)), some (.inl l1), some (.inl l2), some (.inl l3)], [], ω) = am_bi (am_run (58, 0) 0 ([some (.inr (.inr (am_get ω l0.toNat 0))), some (.inl l1)], [], ω)) (fun z1 ω1 => if z1 = 0 then (if am_is ω1 l0 (6, 10) = true then (am_bi (am_run (128, 0) 0 ([some (.inr (.inr l0)), some (.inl ((-2))), none], [], ω1)) (fun z2 ω2 => some (some (.inl z2), ω2))) else none) else (am_bi (am_run (144, 0) 0 ([some (.inl l3)], [], ω1)) (fun z3 ω3 => if z3 = 0 then (if am_is ω3 l0 (6, 10) = true then (am_bi (am_run (128, 0) 0 ([some (.inr (.inr l0)), some (.inl ((-2))), none], [], ω3)) (fun z4 ω4 => some (some (.inl z4), ω4))) else none) else (if am_is ω3 l0 (6, 10) = true then (am_bi (am_run (137, 0) 0 ([some (.inr (.inr l0)), some (.inl l1), some (.inl l2), none], [], ω3)) (fun z5 ω5 => if ¬ z5 = 0 then (if ¬ l2 = 0 then (if am_is ω5 l0 (6, 10) = true then (am_ba (am_run (139, 0) 0 ([some (.inr (.inr l0))], [], ω5)) (fun z6 ω6 => if am_is ω6 l0 (6, 10) = true then (if am_is ω6 (am_get ω6 l0.toNat 0) (5, 8) = true then (if am_ina ω6 (am_get ω6 (am_get ω6 l0.toNat 0).toNat 4) l1 = true then (if am_is ω6 z6 (1, 15) = true then (am_bi (am_run (5, 0) 0 ([some (.inr (.inr z6)), some (.inr (.inr (am_get ω6 (am_get ω6 (am_get ω6 l0.toNat 0).toNat 4).toNat l1.toNat))), some (.inl l2), some (.inl l3), none], [], ω6)) (fun z7 ω7 => some (some (.inl z7), ω7))) else none) else none) else none) else none)) else none) else (some (some (.inl 0), ω5))) else (if am_is ω5 l0 (6, 10) = true then (am_bi (am_run (128, 0) 0 ([some (.inr (.inr l0)), some (.inl ((-2))), none], [], ω5)) (fun z8 ω8 => some (some (.inl z8), ω8))) else none))) else none)))) := by
  refine Eq.trans (rr_aload_n rfl rfl) ?_
  refine Eq.trans (rr_getfr rfl rfl rfl h1) ?_
  refine Eq.trans (rr_iload_n rfl rfl) ?_
  refine Eq.trans (rr_invV0i (S' := []) (L' := [some (.inr (.inr (am_get ω l0.toNat 0))), some (.inl l1)]) (m' := (58, 0)) rfl rfl rfl rfl rfl rfl h2) ?_
  refine bi_cg (fun z1 ω1 => ?_)
  refine Eq.trans (rr_if_eq rfl rfl) (it_cg (fun _ => ?_) (fun _ => ?_))
  · refine Eq.trans (rr_aload_n rfl rfl) ?_
    refine Eq.trans (rr_bipush rfl rfl) ?_
    refine ck_it (fun h => rr_invV0i (S' := []) (L' := [some (.inr (.inr l0)), some (.inl ((-2))), none]) (m' := (128, 0)) rfl rfl rfl rfl rfl rfl h) (fun h => rr_invV0_no (S' := []) (L' := [some (.inr (.inr l0)), some (.inl ((-2))), none]) (m' := (128, 0)) rfl rfl rfl rfl rfl rfl h) (fun h3 => ?_)
    refine bi_cg (fun z2 ω2 => ?_)
    exact rr_ireturn rfl rfl
  · refine Eq.trans (rr_iload_n rfl rfl) ?_
    refine Eq.trans (rr_invS2i (S' := []) (L' := [some (.inl l3)]) (m' := (144, 0)) rfl rfl rfl rfl rfl rfl) ?_
    refine bi_cg (fun z3 ω3 => ?_)
    refine Eq.trans (rr_if_eq rfl rfl) (it_cg (fun _ => ?_) (fun _ => ?_))
    · refine Eq.trans (rr_aload_n rfl rfl) ?_
      refine Eq.trans (rr_bipush rfl rfl) ?_
      refine ck_it (fun h => rr_invV0i (S' := []) (L' := [some (.inr (.inr l0)), some (.inl ((-2))), none]) (m' := (128, 0)) rfl rfl rfl rfl rfl rfl h) (fun h => rr_invV0_no (S' := []) (L' := [some (.inr (.inr l0)), some (.inl ((-2))), none]) (m' := (128, 0)) rfl rfl rfl rfl rfl rfl h) (fun h4 => ?_)
      refine bi_cg (fun z4 ω4 => ?_)
      exact rr_ireturn rfl rfl
    · refine Eq.trans (rr_aload_n rfl rfl) ?_
      refine Eq.trans (rr_iload_n rfl rfl) ?_
      refine Eq.trans (rr_iload_n rfl rfl) ?_
      refine ck_it (fun h => rr_invV0i (S' := []) (L' := [some (.inr (.inr l0)), some (.inl l1), some (.inl l2), none]) (m' := (137, 0)) rfl rfl rfl rfl rfl rfl h) (fun h => rr_invV0_no (S' := []) (L' := [some (.inr (.inr l0)), some (.inl l1), some (.inl l2), none]) (m' := (137, 0)) rfl rfl rfl rfl rfl rfl h) (fun h5 => ?_)
      refine bi_cg (fun z5 ω5 => ?_)
      refine Eq.trans (rr_if_ne rfl rfl) (it_cg (fun _ => ?_) (fun _ => ?_))
      · refine Eq.trans (rr_iload_n rfl rfl) ?_
        refine Eq.trans (rr_if_ne rfl rfl) (it_cg (fun _ => ?_) (fun _ => ?_))
        · refine Eq.trans (rr_aload_n rfl rfl) ?_
          refine ck_it (fun h => rr_invV0a (S' := []) (L' := [some (.inr (.inr l0))]) (m' := (139, 0)) rfl rfl rfl rfl rfl rfl h) (fun h => rr_invV0_no (S' := []) (L' := [some (.inr (.inr l0))]) (m' := (139, 0)) rfl rfl rfl rfl rfl rfl h) (fun h6 => ?_)
          refine ba_cg (fun z6 ω6 => ?_)
          refine Eq.trans (rr_aload_n rfl rfl) ?_
          refine ck_it (fun h => rr_getfr rfl rfl rfl h) (fun h => rr_getfield_no rfl rfl h) (fun h7 => ?_)
          refine ck_it (fun h => rr_getfr rfl rfl rfl h) (fun h => rr_getfield_no rfl rfl h) (fun h8 => ?_)
          refine Eq.trans (rr_iload_n rfl rfl) ?_
          refine ck_it (fun h => rr_aaload rfl h) (fun h => rr_aaload_no rfl h) (fun h9 => ?_)
          refine Eq.trans (rr_iload_n rfl rfl) ?_
          refine Eq.trans (rr_iload_n rfl rfl) ?_
          refine ck_it (fun h => rr_invV0i (S' := []) (L' := [some (.inr (.inr z6)), some (.inr (.inr (am_get ω6 (am_get ω6 (am_get ω6 l0.toNat 0).toNat 4).toNat l1.toNat))), some (.inl l2), some (.inl l3), none]) (m' := (5, 0)) rfl rfl rfl rfl rfl rfl h) (fun h => rr_invV0_no (S' := []) (L' := [some (.inr (.inr z6)), some (.inr (.inr (am_get ω6 (am_get ω6 (am_get ω6 l0.toNat 0).toNat 4).toNat l1.toNat))), some (.inl l2), some (.inl l3), none]) (m' := (5, 0)) rfl rfl rfl rfl rfl rfl h) (fun h10 => ?_)
          refine bi_cg (fun z7 ω7 => ?_)
          exact rr_ireturn rfl rfl
        · refine Eq.trans (rr_iconst rfl rfl) ?_
          refine Eq.trans (rr_goto rfl rfl) ?_
          exact rr_ireturn rfl rfl
      · refine Eq.trans (rr_aload_n rfl rfl) ?_
        refine Eq.trans (rr_bipush rfl rfl) ?_
        refine ck_it (fun h => rr_invV0i (S' := []) (L' := [some (.inr (.inr l0)), some (.inl ((-2))), none]) (m' := (128, 0)) rfl rfl rfl rfl rfl rfl h) (fun h => rr_invV0_no (S' := []) (L' := [some (.inr (.inr l0)), some (.inl ((-2))), none]) (m' := (128, 0)) rfl rfl rfl rfl rfl rfl h) (fun h11 => ?_)
        refine bi_cg (fun z8 ω8 => ?_)
        exact rr_ireturn rfl rfl
theorem pX6_home_0 (l0 l1 l2 : Int) (ω : am_W) (h1 : am_is ω l0 (6, 10) = true) (h2 : am_is ω (am_get ω l0.toNat 0) (5, 8) = true) : am_run (111, 0) 0 ([some (.inr (.inr l0)), some (.inl l1), some (.inl l2), none, none, none, none], [], ω) = am_bi (am_run (58, 0) 0 ([some (.inr (.inr (am_get ω l0.toNat 0))), some (.inl l1)], [], ω)) (fun z1 ω1 => if z1 = 0 then (if am_is ω1 l0 (6, 10) = true then (am_bi (am_run (128, 0) 0 ([some (.inr (.inr l0)), some (.inl ((-2))), none], [], ω1)) (fun z2 ω2 => some (some (.inl z2), ω2))) else none) else (if l2 < 0 then (if am_is ω1 l0 (6, 10) = true then (am_bi (am_run (128, 0) 0 ([some (.inr (.inr l0)), some (.inl ((-2))), none], [], ω1)) (fun z3 ω3 => some (some (.inl z3), ω3))) else none) else (if l2 ≤ 1 then (if am_is ω1 l0 (6, 10) = true then (if am_is ω1 (am_get ω1 l0.toNat 0) (5, 8) = true then (if am_ina ω1 (am_get ω1 (am_get ω1 l0.toNat 0).toNat 4) l1 = true then (if am_is ω1 (am_get ω1 (am_get ω1 (am_get ω1 l0.toNat 0).toNat 4).toNat l1.toNat) (4, 5) = true then (if (am_get ω1 (am_get ω1 (am_get ω1 (am_get ω1 l0.toNat 0).toNat 4).toNat l1.toNat).toNat 1) ≤ 0 then (am_run (111, 0) 73 ([some (.inr (.inr l0)), some (.inl l1), some (.inl l2), some (.inr (.inr (am_get ω1 (am_get ω1 (am_get ω1 l0.toNat 0).toNat 4).toNat l1.toNat))), some (.inl 0), some (.inl (am_get ω1 (am_get ω1 (am_get ω1 (am_get ω1 l0.toNat 0).toNat 4).toNat l1.toNat).toNat 4)), some (.inl (am_get ω1 (am_get ω1 (am_get ω1 (am_get ω1 l0.toNat 0).toNat 4).toNat l1.toNat).toNat 1))], [], ω1)) else (am_bi (am_run (50, 0) 0 ([some (.inr (.inr (am_get ω1 (am_get ω1 (am_get ω1 l0.toNat 0).toNat 4).toNat l1.toNat)))], [], ω1)) (fun z4 ω4 => if ¬ z4 = 0 then (if am_is ω4 (am_get ω1 (am_get ω1 (am_get ω1 l0.toNat 0).toNat 4).toNat l1.toNat) (4, 5) = true then (am_run (111, 0) 73 ([some (.inr (.inr l0)), some (.inl l1), some (.inl l2), some (.inr (.inr (am_get ω1 (am_get ω1 (am_get ω1 l0.toNat 0).toNat 4).toNat l1.toNat))), some (.inl 0), some (.inl (am_get ω4 (am_get ω1 (am_get ω1 (am_get ω1 l0.toNat 0).toNat 4).toNat l1.toNat).toNat 4)), some (.inl (am_get ω4 (am_get ω1 (am_get ω1 (am_get ω1 l0.toNat 0).toNat 4).toNat l1.toNat).toNat 1))], [], ω4)) else none) else (if am_is ω4 l0 (6, 10) = true then (am_bi (am_run (128, 0) 0 ([some (.inr (.inr l0)), some (.inl ((-5))), none], [], ω4)) (fun z5 ω5 => some (some (.inl z5), ω5))) else none)))) else none) else none) else none) else none) else (if am_is ω1 l0 (6, 10) = true then (am_bi (am_run (128, 0) 0 ([some (.inr (.inr l0)), some (.inl ((-2))), none], [], ω1)) (fun z6 ω6 => some (some (.inl z6), ω6))) else none)))) := by
  refine Eq.trans (rr_aload_n rfl rfl) ?_
  refine Eq.trans (rr_getfr rfl rfl rfl h1) ?_
  refine Eq.trans (rr_iload_n rfl rfl) ?_
  refine Eq.trans (rr_invV0i (S' := []) (L' := [some (.inr (.inr (am_get ω l0.toNat 0))), some (.inl l1)]) (m' := (58, 0)) rfl rfl rfl rfl rfl rfl h2) ?_
  refine bi_cg (fun z1 ω1 => ?_)
  refine Eq.trans (rr_if_eq rfl rfl) (it_cg (fun _ => ?_) (fun _ => ?_))
  · refine Eq.trans (rr_aload_n rfl rfl) ?_
    refine Eq.trans (rr_bipush rfl rfl) ?_
    refine ck_it (fun h => rr_invV0i (S' := []) (L' := [some (.inr (.inr l0)), some (.inl ((-2))), none]) (m' := (128, 0)) rfl rfl rfl rfl rfl rfl h) (fun h => rr_invV0_no (S' := []) (L' := [some (.inr (.inr l0)), some (.inl ((-2))), none]) (m' := (128, 0)) rfl rfl rfl rfl rfl rfl h) (fun h3 => ?_)
    refine bi_cg (fun z2 ω2 => ?_)
    exact rr_ireturn rfl rfl
  · refine Eq.trans (rr_iload_n rfl rfl) ?_
    refine Eq.trans (rr_if_lt rfl rfl) (it_cg (fun _ => ?_) (fun _ => ?_))
    · refine Eq.trans (rr_aload_n rfl rfl) ?_
      refine Eq.trans (rr_bipush rfl rfl) ?_
      refine ck_it (fun h => rr_invV0i (S' := []) (L' := [some (.inr (.inr l0)), some (.inl ((-2))), none]) (m' := (128, 0)) rfl rfl rfl rfl rfl rfl h) (fun h => rr_invV0_no (S' := []) (L' := [some (.inr (.inr l0)), some (.inl ((-2))), none]) (m' := (128, 0)) rfl rfl rfl rfl rfl rfl h) (fun h4 => ?_)
      refine bi_cg (fun z3 ω3 => ?_)
      exact rr_ireturn rfl rfl
    · refine Eq.trans (rr_iload_n rfl rfl) ?_
      refine Eq.trans (rr_iconst rfl rfl) ?_
      refine Eq.trans (rr_icmp_le rfl rfl) (it_cg (fun _ => ?_) (fun _ => ?_))
      · refine Eq.trans (rr_aload_n rfl rfl) ?_
        refine ck_it (fun h => rr_getfr rfl rfl rfl h) (fun h => rr_getfield_no rfl rfl h) (fun h5 => ?_)
        refine ck_it (fun h => rr_getfr rfl rfl rfl h) (fun h => rr_getfield_no rfl rfl h) (fun h6 => ?_)
        refine Eq.trans (rr_iload_n rfl rfl) ?_
        refine ck_it (fun h => rr_aaload rfl h) (fun h => rr_aaload_no rfl h) (fun h7 => ?_)
        refine Eq.trans (rr_astore_n (L' := [some (.inr (.inr l0)), some (.inl l1), some (.inl l2), some (.inr (.inr (am_get ω1 (am_get ω1 (am_get ω1 l0.toNat 0).toNat 4).toNat l1.toNat))), none, none, none]) rfl rfl) ?_
        refine Eq.trans (rr_aload_n rfl rfl) ?_
        refine ck_it (fun h => rr_getfi rfl rfl rfl h) (fun h => rr_getfield_no rfl rfl h) (fun h8 => ?_)
        refine Eq.trans (rr_if_le rfl rfl) (it_cg (fun _ => ?_) (fun _ => ?_))
        · refine Eq.trans (rr_iconst rfl rfl) ?_
          refine Eq.trans (rr_istore (L' := [some (.inr (.inr l0)), some (.inl l1), some (.inl l2), some (.inr (.inr (am_get ω1 (am_get ω1 (am_get ω1 l0.toNat 0).toNat 4).toNat l1.toNat))), some (.inl 0), none, none]) rfl rfl) ?_
          refine Eq.trans (rr_aload_n rfl rfl) ?_
          refine Eq.trans (rr_getfi rfl rfl rfl h8) ?_
          refine Eq.trans (rr_istore (L' := [some (.inr (.inr l0)), some (.inl l1), some (.inl l2), some (.inr (.inr (am_get ω1 (am_get ω1 (am_get ω1 l0.toNat 0).toNat 4).toNat l1.toNat))), some (.inl 0), some (.inl (am_get ω1 (am_get ω1 (am_get ω1 (am_get ω1 l0.toNat 0).toNat 4).toNat l1.toNat).toNat 4)), none]) rfl rfl) ?_
          refine Eq.trans (rr_aload_n rfl rfl) ?_
          refine Eq.trans (rr_getfi rfl rfl rfl h8) ?_
          refine Eq.trans (rr_istore (L' := [some (.inr (.inr l0)), some (.inl l1), some (.inl l2), some (.inr (.inr (am_get ω1 (am_get ω1 (am_get ω1 l0.toNat 0).toNat 4).toNat l1.toNat))), some (.inl 0), some (.inl (am_get ω1 (am_get ω1 (am_get ω1 (am_get ω1 l0.toNat 0).toNat 4).toNat l1.toNat).toNat 4)), some (.inl (am_get ω1 (am_get ω1 (am_get ω1 (am_get ω1 l0.toNat 0).toNat 4).toNat l1.toNat).toNat 1))]) rfl rfl) ?_
          rfl
        · refine Eq.trans (rr_aload_n rfl rfl) ?_
          refine Eq.trans (rr_invV0i (S' := []) (L' := [some (.inr (.inr (am_get ω1 (am_get ω1 (am_get ω1 l0.toNat 0).toNat 4).toNat l1.toNat)))]) (m' := (50, 0)) rfl rfl rfl rfl rfl rfl h8) ?_
          refine bi_cg (fun z4 ω4 => ?_)
          refine Eq.trans (rr_if_ne rfl rfl) (it_cg (fun _ => ?_) (fun _ => ?_))
          · refine Eq.trans (rr_iconst rfl rfl) ?_
            refine Eq.trans (rr_istore (L' := [some (.inr (.inr l0)), some (.inl l1), some (.inl l2), some (.inr (.inr (am_get ω1 (am_get ω1 (am_get ω1 l0.toNat 0).toNat 4).toNat l1.toNat))), some (.inl 0), none, none]) rfl rfl) ?_
            refine Eq.trans (rr_aload_n rfl rfl) ?_
            refine ck_it (fun h => rr_getfi rfl rfl rfl h) (fun h => rr_getfield_no rfl rfl h) (fun h9 => ?_)
            refine Eq.trans (rr_istore (L' := [some (.inr (.inr l0)), some (.inl l1), some (.inl l2), some (.inr (.inr (am_get ω1 (am_get ω1 (am_get ω1 l0.toNat 0).toNat 4).toNat l1.toNat))), some (.inl 0), some (.inl (am_get ω4 (am_get ω1 (am_get ω1 (am_get ω1 l0.toNat 0).toNat 4).toNat l1.toNat).toNat 4)), none]) rfl rfl) ?_
            refine Eq.trans (rr_aload_n rfl rfl) ?_
            refine Eq.trans (rr_getfi rfl rfl rfl h9) ?_
            refine Eq.trans (rr_istore (L' := [some (.inr (.inr l0)), some (.inl l1), some (.inl l2), some (.inr (.inr (am_get ω1 (am_get ω1 (am_get ω1 l0.toNat 0).toNat 4).toNat l1.toNat))), some (.inl 0), some (.inl (am_get ω4 (am_get ω1 (am_get ω1 (am_get ω1 l0.toNat 0).toNat 4).toNat l1.toNat).toNat 4)), some (.inl (am_get ω4 (am_get ω1 (am_get ω1 (am_get ω1 l0.toNat 0).toNat 4).toNat l1.toNat).toNat 1))]) rfl rfl) ?_
            rfl
          · refine Eq.trans (rr_aload_n rfl rfl) ?_
            refine Eq.trans (rr_bipush rfl rfl) ?_
            refine ck_it (fun h => rr_invV0i (S' := []) (L' := [some (.inr (.inr l0)), some (.inl ((-5))), none]) (m' := (128, 0)) rfl rfl rfl rfl rfl rfl h) (fun h => rr_invV0_no (S' := []) (L' := [some (.inr (.inr l0)), some (.inl ((-5))), none]) (m' := (128, 0)) rfl rfl rfl rfl rfl rfl h) (fun h10 => ?_)
            refine bi_cg (fun z5 ω5 => ?_)
            exact rr_ireturn rfl rfl
      · refine Eq.trans (rr_aload_n rfl rfl) ?_
        refine Eq.trans (rr_bipush rfl rfl) ?_
        refine ck_it (fun h => rr_invV0i (S' := []) (L' := [some (.inr (.inr l0)), some (.inl ((-2))), none]) (m' := (128, 0)) rfl rfl rfl rfl rfl rfl h) (fun h => rr_invV0_no (S' := []) (L' := [some (.inr (.inr l0)), some (.inl ((-2))), none]) (m' := (128, 0)) rfl rfl rfl rfl rfl rfl h) (fun h11 => ?_)
        refine bi_cg (fun z6 ω6 => ?_)
        exact rr_ireturn rfl rfl
theorem pX6_home_73 (l0 l1 l2 l3 l4 l5 l6 : Int) (ω : am_W) (h1 : am_is ω l0 (6, 10) = true) (h2 : am_is ω (am_get ω l0.toNat 0) (5, 8) = true) : am_run (111, 0) 73 ([some (.inr (.inr l0)), some (.inl l1), some (.inl l2), some (.inr (.inr l3)), some (.inl l4), some (.inl l5), some (.inl l6)], [], ω) = if l6 ≤ 0 then (if ¬ l2 = 0 then (some (some (.inl l5), ω)) else (some (some (.inl l4), ω))) else (am_bi (am_run (69, 0) 0 ([some (.inr (.inr (am_get ω l0.toNat 0))), some (.inr (.inr l3)), some (.inl l6), some (.inl 2), none], [], ω)) (fun z1 ω1 => if am_is ω1 l0 (6, 10) = true then (if am_is ω1 (am_get ω1 l0.toNat 0) (5, 8) = true then (am_bi (am_run (70, 0) 0 ([some (.inr (.inr (am_get ω1 l0.toNat 0))), some (.inl l6)], [], ω1)) (fun z2 ω2 => am_run (111, 0) 73 ([some (.inr (.inr l0)), some (.inl l1), some (.inl l2), some (.inr (.inr l3)), some (.inl (am_w (l4 + z1))), some (.inl (am_w (l5 + z2))), some (.inl (am_w (l6 + (-1))))], [], ω2))) else none) else none)) := by
  refine Eq.trans (rr_iload rfl rfl) ?_
  refine Eq.trans (rr_if_le rfl rfl) (it_cg (fun _ => ?_) (fun _ => ?_))
  · refine Eq.trans (rr_iload_n rfl rfl) ?_
    refine Eq.trans (rr_if_ne rfl rfl) (it_cg (fun _ => ?_) (fun _ => ?_))
    · refine Eq.trans (rr_iload rfl rfl) ?_
      exact rr_ireturn rfl rfl
    · refine Eq.trans (rr_iload rfl rfl) ?_
      refine Eq.trans (rr_goto rfl rfl) ?_
      exact rr_ireturn rfl rfl
  · refine Eq.trans (rr_iload rfl rfl) ?_
    refine Eq.trans (rr_aload_n rfl rfl) ?_
    refine Eq.trans (rr_getfr rfl rfl rfl h1) ?_
    refine Eq.trans (rr_aload_n rfl rfl) ?_
    refine Eq.trans (rr_iload rfl rfl) ?_
    refine Eq.trans (rr_iconst rfl rfl) ?_
    refine Eq.trans (rr_invV0i (S' := [.inl l4]) (L' := [some (.inr (.inr (am_get ω l0.toNat 0))), some (.inr (.inr l3)), some (.inl l6), some (.inl 2), none]) (m' := (69, 0)) rfl rfl rfl rfl rfl rfl h2) ?_
    refine bi_cg (fun z1 ω1 => ?_)
    refine Eq.trans (rr_iadd rfl) ?_
    refine Eq.trans (rr_istore (L' := [some (.inr (.inr l0)), some (.inl l1), some (.inl l2), some (.inr (.inr l3)), some (.inl (am_w (l4 + z1))), some (.inl l5), some (.inl l6)]) rfl rfl) ?_
    refine Eq.trans (rr_iload rfl rfl) ?_
    refine Eq.trans (rr_aload_n rfl rfl) ?_
    refine ck_it (fun h => rr_getfr rfl rfl rfl h) (fun h => rr_getfield_no rfl rfl h) (fun h3 => ?_)
    refine Eq.trans (rr_iload rfl rfl) ?_
    refine ck_it (fun h => rr_invV0i (S' := [.inl l5]) (L' := [some (.inr (.inr (am_get ω1 l0.toNat 0))), some (.inl l6)]) (m' := (70, 0)) rfl rfl rfl rfl rfl rfl h) (fun h => rr_invV0_no (S' := [.inl l5]) (L' := [some (.inr (.inr (am_get ω1 l0.toNat 0))), some (.inl l6)]) (m' := (70, 0)) rfl rfl rfl rfl rfl rfl h) (fun h4 => ?_)
    refine bi_cg (fun z2 ω2 => ?_)
    refine Eq.trans (rr_iadd rfl) ?_
    refine Eq.trans (rr_istore (L' := [some (.inr (.inr l0)), some (.inl l1), some (.inl l2), some (.inr (.inr l3)), some (.inl (am_w (l4 + z1))), some (.inl (am_w (l5 + z2))), some (.inl l6)]) rfl rfl) ?_
    refine Eq.trans (rr_iinc (L' := [some (.inr (.inr l0)), some (.inl l1), some (.inl l2), some (.inr (.inr l3)), some (.inl (am_w (l4 + z1))), some (.inl (am_w (l5 + z2))), some (.inl (am_w (l6 + (-1))))]) rfl rfl rfl) ?_
    refine Eq.trans (rr_goto rfl rfl) ?_
    rfl
theorem pX6_again_0 (l0 : Int) (ω : am_W) (h1 : am_is ω l0 (6, 10) = true) (h2 : am_is ω (am_get ω l0.toNat 0) (5, 8) = true) : am_run (112, 0) 0 ([some (.inr (.inr l0)), none, none, none, none], [], ω) = if ¬ (am_get ω (am_get ω l0.toNat 0).toNat 3) = 0 then (am_run (112, 0) 18 ([some (.inr (.inr l0)), some (.inr (.inl 1)), none, some (.inl 0), none], [], ω)) else (some (some (.inr (.inl ((-1)))), ω)) := by
  refine Eq.trans (rr_aload_n rfl rfl) ?_
  refine Eq.trans (rr_getfr rfl rfl rfl h1) ?_
  refine Eq.trans (rr_getfi rfl rfl rfl h2) ?_
  refine Eq.trans (rr_if_ne rfl rfl) (it_cg (fun _ => ?_) (fun _ => ?_))
  · refine Eq.trans (rr_lconst rfl) ?_
    refine Eq.trans (rr_lstore_n (L' := [some (.inr (.inr l0)), some (.inr (.inl 1)), none, none, none]) rfl rfl) ?_
    refine Eq.trans (rr_iconst rfl rfl) ?_
    refine Eq.trans (rr_istore_n (L' := [some (.inr (.inr l0)), some (.inr (.inl 1)), none, some (.inl 0), none]) rfl rfl) ?_
    rfl
  · refine Eq.trans (rr_ldc2 rfl rfl) ?_
    exact rr_lreturn rfl rfl
theorem pX6_again_18 (l0 l1 l3 : Int) (o4 : Option am_V) (ω : am_W) (h1 : am_is ω l0 (6, 10) = true) (h2 : am_is ω (am_get ω l0.toNat 0) (5, 8) = true) : am_run (112, 0) 18 ([some (.inr (.inr l0)), some (.inr (.inl l1)), none, some (.inl l3), o4], [], ω) = if (am_get ω (am_get ω l0.toNat 0).toNat 3) ≤ l3 then (some (some (.inr (.inl l1)), ω)) else (if am_ina ω (am_get ω (am_get ω l0.toNat 0).toNat 4) l3 = true then (if am_is ω (am_get ω (am_get ω (am_get ω l0.toNat 0).toNat 4).toNat l3.toNat) (4, 5) = true then (if (am_get ω (am_get ω (am_get ω (am_get ω l0.toNat 0).toNat 4).toNat l3.toNat).toNat 4) ≤ 0 then (am_bi (am_run (61, 0) 0 ([some (.inr (.inr (am_get ω l0.toNat 0))), some (.inl (am_get ω (am_get ω (am_get ω (am_get ω l0.toNat 0).toNat 4).toNat l3.toNat).toNat 1))], [], ω)) (fun z1 ω1 => am_bl (am_run (146, 0) 0 ([some (.inr (.inl l1)), none, some (.inl z1), none], [], ω1)) (fun z2 ω2 => am_run (112, 0) 18 ([some (.inr (.inr l0)), some (.inr (.inl z2)), none, some (.inl (am_w (l3 + 1))), some (.inr (.inr (am_get ω (am_get ω (am_get ω l0.toNat 0).toNat 4).toNat l3.toNat)))], [], ω2)))) else (some (some (.inr (.inl ((-1)))), ω))) else none) else none) := by
  refine Eq.trans (rr_iload_n rfl rfl) ?_
  refine Eq.trans (rr_aload_n rfl rfl) ?_
  refine Eq.trans (rr_getfr rfl rfl rfl h1) ?_
  refine Eq.trans (rr_getfi rfl rfl rfl h2) ?_
  refine Eq.trans (rr_icmp_ge rfl rfl) (it_cg (fun _ => ?_) (fun _ => ?_))
  · refine Eq.trans (rr_lload_n rfl rfl) ?_
    exact rr_lreturn rfl rfl
  · refine Eq.trans (rr_aload_n rfl rfl) ?_
    refine Eq.trans (rr_getfr rfl rfl rfl h1) ?_
    refine Eq.trans (rr_getfr rfl rfl rfl h2) ?_
    refine Eq.trans (rr_iload_n rfl rfl) ?_
    refine ck_it (fun h => rr_aaload rfl h) (fun h => rr_aaload_no rfl h) (fun h3 => ?_)
    refine Eq.trans (rr_astore (L' := [some (.inr (.inr l0)), some (.inr (.inl l1)), none, some (.inl l3), some (.inr (.inr (am_get ω (am_get ω (am_get ω l0.toNat 0).toNat 4).toNat l3.toNat)))]) rfl rfl) ?_
    refine Eq.trans (rr_aload rfl rfl) ?_
    refine ck_it (fun h => rr_getfi rfl rfl rfl h) (fun h => rr_getfield_no rfl rfl h) (fun h4 => ?_)
    refine Eq.trans (rr_if_le rfl rfl) (it_cg (fun _ => ?_) (fun _ => ?_))
    · refine Eq.trans (rr_lload_n rfl rfl) ?_
      refine Eq.trans (rr_aload_n rfl rfl) ?_
      refine Eq.trans (rr_getfr rfl rfl rfl h1) ?_
      refine Eq.trans (rr_aload rfl rfl) ?_
      refine Eq.trans (rr_getfi rfl rfl rfl h4) ?_
      refine Eq.trans (rr_invV0i (S' := [.inr (.inl l1)]) (L' := [some (.inr (.inr (am_get ω l0.toNat 0))), some (.inl (am_get ω (am_get ω (am_get ω (am_get ω l0.toNat 0).toNat 4).toNat l3.toNat).toNat 1))]) (m' := (61, 0)) rfl rfl rfl rfl rfl rfl h2) ?_
      refine bi_cg (fun z1 ω1 => ?_)
      refine Eq.trans (rr_invS2l (S' := []) (L' := [some (.inr (.inl l1)), none, some (.inl z1), none]) (m' := (146, 0)) rfl rfl rfl rfl rfl rfl) ?_
      refine bl_cg (fun z2 ω2 => ?_)
      refine Eq.trans (rr_lstore_n (L' := [some (.inr (.inr l0)), some (.inr (.inl z2)), none, some (.inl l3), some (.inr (.inr (am_get ω (am_get ω (am_get ω l0.toNat 0).toNat 4).toNat l3.toNat)))]) rfl rfl) ?_
      refine Eq.trans (rr_iinc (L' := [some (.inr (.inr l0)), some (.inr (.inl z2)), none, some (.inl (am_w (l3 + 1))), some (.inr (.inr (am_get ω (am_get ω (am_get ω l0.toNat 0).toNat 4).toNat l3.toNat)))]) rfl rfl rfl) ?_
      refine Eq.trans (rr_goto rfl rfl) ?_
      rfl
    · refine Eq.trans (rr_ldc2 rfl rfl) ?_
      exact rr_lreturn rfl rfl
theorem pX6_pass_0 (l0 l1 l2 : Int) (ω : am_W) (h1 : am_is ω l0 (6, 10) = true) (h2 : am_is ω (am_get ω l0.toNat 0) (5, 8) = true) : am_run (113, 0) 0 ([some (.inr (.inr l0)), some (.inl l1), some (.inl l2), none, none, none, none, none], [], ω) = am_bi (am_run (59, 0) 0 ([some (.inr (.inr (am_get ω l0.toNat 0))), some (.inl l1), some (.inl l2)], [], ω)) (fun z1 ω1 => if ¬ z1 = 0 then (if am_is ω1 l0 (6, 10) = true then (if am_is ω1 (am_get ω1 l0.toNat 0) (5, 8) = true then (if am_ina ω1 (am_get ω1 (am_get ω1 l0.toNat 0).toNat 4) l1 = true then (if am_ina ω1 (am_get ω1 (am_get ω1 l0.toNat 0).toNat 4) l2 = true then (if am_is ω1 (am_get ω1 (am_get ω1 (am_get ω1 l0.toNat 0).toNat 4).toNat l1.toNat) (4, 5) = true then (am_bi (am_run (61, 0) 0 ([some (.inr (.inr (am_get ω1 l0.toNat 0))), some (.inl (am_get ω1 (am_get ω1 (am_get ω1 (am_get ω1 l0.toNat 0).toNat 4).toNat l1.toNat).toNat 1))], [], ω1)) (fun z2 ω2 => if am_is ω2 l0 (6, 10) = true then (if am_is ω2 (am_get ω1 (am_get ω1 (am_get ω1 l0.toNat 0).toNat 4).toNat l2.toNat) (4, 5) = true then (if am_is ω2 (am_get ω2 l0.toNat 0) (5, 8) = true then (am_bi (am_run (61, 0) 0 ([some (.inr (.inr (am_get ω2 l0.toNat 0))), some (.inl (am_get ω2 (am_get ω1 (am_get ω1 (am_get ω1 l0.toNat 0).toNat 4).toNat l2.toNat).toNat 1))], [], ω2)) (fun z3 ω3 => am_run (113, 0) 70 ([some (.inr (.inr l0)), some (.inl l1), some (.inl l2), some (.inr (.inr (am_get ω1 (am_get ω1 (am_get ω1 l0.toNat 0).toNat 4).toNat l1.toNat))), some (.inr (.inr (am_get ω1 (am_get ω1 (am_get ω1 l0.toNat 0).toNat 4).toNat l2.toNat))), some (.inl z2), some (.inl z3), some (.inl 0)], [], ω3))) else none) else none) else none)) else none) else none) else none) else none) else none) else (if am_is ω1 l0 (6, 10) = true then (am_bi (am_run (128, 0) 0 ([some (.inr (.inr l0)), some (.inl ((-2))), none], [], ω1)) (fun z4 ω4 => some (some (.inl z4), ω4))) else none)) := by
  refine Eq.trans (rr_aload_n rfl rfl) ?_
  refine Eq.trans (rr_getfr rfl rfl rfl h1) ?_
  refine Eq.trans (rr_iload_n rfl rfl) ?_
  refine Eq.trans (rr_iload_n rfl rfl) ?_
  refine Eq.trans (rr_invV0i (S' := []) (L' := [some (.inr (.inr (am_get ω l0.toNat 0))), some (.inl l1), some (.inl l2)]) (m' := (59, 0)) rfl rfl rfl rfl rfl rfl h2) ?_
  refine bi_cg (fun z1 ω1 => ?_)
  refine Eq.trans (rr_if_ne rfl rfl) (it_cg (fun _ => ?_) (fun _ => ?_))
  · refine Eq.trans (rr_aload_n rfl rfl) ?_
    refine ck_it (fun h => rr_getfr rfl rfl rfl h) (fun h => rr_getfield_no rfl rfl h) (fun h3 => ?_)
    refine ck_it (fun h => rr_getfr rfl rfl rfl h) (fun h => rr_getfield_no rfl rfl h) (fun h4 => ?_)
    refine Eq.trans (rr_iload_n rfl rfl) ?_
    refine ck_it (fun h => rr_aaload rfl h) (fun h => rr_aaload_no rfl h) (fun h5 => ?_)
    refine Eq.trans (rr_astore_n (L' := [some (.inr (.inr l0)), some (.inl l1), some (.inl l2), some (.inr (.inr (am_get ω1 (am_get ω1 (am_get ω1 l0.toNat 0).toNat 4).toNat l1.toNat))), none, none, none, none]) rfl rfl) ?_
    refine Eq.trans (rr_aload_n rfl rfl) ?_
    refine Eq.trans (rr_getfr rfl rfl rfl h3) ?_
    refine Eq.trans (rr_getfr rfl rfl rfl h4) ?_
    refine Eq.trans (rr_iload_n rfl rfl) ?_
    refine ck_it (fun h => rr_aaload rfl h) (fun h => rr_aaload_no rfl h) (fun h6 => ?_)
    refine Eq.trans (rr_astore (L' := [some (.inr (.inr l0)), some (.inl l1), some (.inl l2), some (.inr (.inr (am_get ω1 (am_get ω1 (am_get ω1 l0.toNat 0).toNat 4).toNat l1.toNat))), some (.inr (.inr (am_get ω1 (am_get ω1 (am_get ω1 l0.toNat 0).toNat 4).toNat l2.toNat))), none, none, none]) rfl rfl) ?_
    refine Eq.trans (rr_aload_n rfl rfl) ?_
    refine Eq.trans (rr_getfr rfl rfl rfl h3) ?_
    refine Eq.trans (rr_aload_n rfl rfl) ?_
    refine ck_it (fun h => rr_getfi rfl rfl rfl h) (fun h => rr_getfield_no rfl rfl h) (fun h7 => ?_)
    refine Eq.trans (rr_invV0i (S' := []) (L' := [some (.inr (.inr (am_get ω1 l0.toNat 0))), some (.inl (am_get ω1 (am_get ω1 (am_get ω1 (am_get ω1 l0.toNat 0).toNat 4).toNat l1.toNat).toNat 1))]) (m' := (61, 0)) rfl rfl rfl rfl rfl rfl h4) ?_
    refine bi_cg (fun z2 ω2 => ?_)
    refine Eq.trans (rr_istore (L' := [some (.inr (.inr l0)), some (.inl l1), some (.inl l2), some (.inr (.inr (am_get ω1 (am_get ω1 (am_get ω1 l0.toNat 0).toNat 4).toNat l1.toNat))), some (.inr (.inr (am_get ω1 (am_get ω1 (am_get ω1 l0.toNat 0).toNat 4).toNat l2.toNat))), some (.inl z2), none, none]) rfl rfl) ?_
    refine Eq.trans (rr_aload_n rfl rfl) ?_
    refine ck_it (fun h => rr_getfr rfl rfl rfl h) (fun h => rr_getfield_no rfl rfl h) (fun h8 => ?_)
    refine Eq.trans (rr_aload rfl rfl) ?_
    refine ck_it (fun h => rr_getfi rfl rfl rfl h) (fun h => rr_getfield_no rfl rfl h) (fun h9 => ?_)
    refine ck_it (fun h => rr_invV0i (S' := []) (L' := [some (.inr (.inr (am_get ω2 l0.toNat 0))), some (.inl (am_get ω2 (am_get ω1 (am_get ω1 (am_get ω1 l0.toNat 0).toNat 4).toNat l2.toNat).toNat 1))]) (m' := (61, 0)) rfl rfl rfl rfl rfl rfl h) (fun h => rr_invV0_no (S' := []) (L' := [some (.inr (.inr (am_get ω2 l0.toNat 0))), some (.inl (am_get ω2 (am_get ω1 (am_get ω1 (am_get ω1 l0.toNat 0).toNat 4).toNat l2.toNat).toNat 1))]) (m' := (61, 0)) rfl rfl rfl rfl rfl rfl h) (fun h10 => ?_)
    refine bi_cg (fun z3 ω3 => ?_)
    refine Eq.trans (rr_istore (L' := [some (.inr (.inr l0)), some (.inl l1), some (.inl l2), some (.inr (.inr (am_get ω1 (am_get ω1 (am_get ω1 l0.toNat 0).toNat 4).toNat l1.toNat))), some (.inr (.inr (am_get ω1 (am_get ω1 (am_get ω1 l0.toNat 0).toNat 4).toNat l2.toNat))), some (.inl z2), some (.inl z3), none]) rfl rfl) ?_
    refine Eq.trans (rr_iconst rfl rfl) ?_
    refine Eq.trans (rr_istore (L' := [some (.inr (.inr l0)), some (.inl l1), some (.inl l2), some (.inr (.inr (am_get ω1 (am_get ω1 (am_get ω1 l0.toNat 0).toNat 4).toNat l1.toNat))), some (.inr (.inr (am_get ω1 (am_get ω1 (am_get ω1 l0.toNat 0).toNat 4).toNat l2.toNat))), some (.inl z2), some (.inl z3), some (.inl 0)]) rfl rfl) ?_
    rfl
  · refine Eq.trans (rr_aload_n rfl rfl) ?_
    refine Eq.trans (rr_bipush rfl rfl) ?_
    refine ck_it (fun h => rr_invV0i (S' := []) (L' := [some (.inr (.inr l0)), some (.inl ((-2))), none]) (m' := (128, 0)) rfl rfl rfl rfl rfl rfl h) (fun h => rr_invV0_no (S' := []) (L' := [some (.inr (.inr l0)), some (.inl ((-2))), none]) (m' := (128, 0)) rfl rfl rfl rfl rfl rfl h) (fun h11 => ?_)
    refine bi_cg (fun z4 ω4 => ?_)
    exact rr_ireturn rfl rfl
theorem pX6_pass_70 (l0 l1 l2 l3 l4 l5 l6 l7 : Int) (ω : am_W) (h1 : am_is ω l0 (6, 10) = true) (h2 : am_is ω (am_get ω l0.toNat 0) (5, 8) = true) : am_run (113, 0) 70 ([some (.inr (.inr l0)), some (.inl l1), some (.inl l2), some (.inr (.inr l3)), some (.inr (.inr l4)), some (.inl l5), some (.inl l6), some (.inl l7)], [], ω) = if (am_w (l5 * l6)) ≤ l7 then (some (some (.inl ((-1))), ω)) else (am_bi (am_run (75, 0) 0 ([some (.inr (.inr (am_get ω l0.toNat 0))), some (.inr (.inr l3)), some (.inl l7)], [], ω)) (fun z1 ω1 => if am_is ω1 l0 (6, 10) = true then (if am_is ω1 (am_get ω1 l0.toNat 0) (5, 8) = true then (am_bi (am_run (75, 0) 0 ([some (.inr (.inr (am_get ω1 l0.toNat 0))), some (.inr (.inr l4)), some (.inl l7)], [], ω1)) (fun z2 ω2 => if ¬ (am_w (z1 * l6)) = (am_w (z2 * l5)) then (am_run (113, 0) 70 ([some (.inr (.inr l0)), some (.inl l1), some (.inl l2), some (.inr (.inr l3)), some (.inr (.inr l4)), some (.inl l5), some (.inl l6), some (.inl (am_w (l7 + 1)))], [], ω2)) else (some (some (.inl l7), ω2)))) else none) else none)) := by
  refine Eq.trans (rr_iload rfl rfl) ?_
  refine Eq.trans (rr_iload rfl rfl) ?_
  refine Eq.trans (rr_iload rfl rfl) ?_
  refine Eq.trans (rr_imul rfl) ?_
  refine Eq.trans (rr_icmp_ge rfl rfl) (it_cg (fun _ => ?_) (fun _ => ?_))
  · refine Eq.trans (rr_iconst rfl rfl) ?_
    exact rr_ireturn rfl rfl
  · refine Eq.trans (rr_aload_n rfl rfl) ?_
    refine Eq.trans (rr_getfr rfl rfl rfl h1) ?_
    refine Eq.trans (rr_aload_n rfl rfl) ?_
    refine Eq.trans (rr_iload rfl rfl) ?_
    refine Eq.trans (rr_invV0i (S' := []) (L' := [some (.inr (.inr (am_get ω l0.toNat 0))), some (.inr (.inr l3)), some (.inl l7)]) (m' := (75, 0)) rfl rfl rfl rfl rfl rfl h2) ?_
    refine bi_cg (fun z1 ω1 => ?_)
    refine Eq.trans (rr_iload rfl rfl) ?_
    refine Eq.trans (rr_imul rfl) ?_
    refine Eq.trans (rr_aload_n rfl rfl) ?_
    refine ck_it (fun h => rr_getfr rfl rfl rfl h) (fun h => rr_getfield_no rfl rfl h) (fun h3 => ?_)
    refine Eq.trans (rr_aload rfl rfl) ?_
    refine Eq.trans (rr_iload rfl rfl) ?_
    refine ck_it (fun h => rr_invV0i (S' := [.inl (am_w (z1 * l6))]) (L' := [some (.inr (.inr (am_get ω1 l0.toNat 0))), some (.inr (.inr l4)), some (.inl l7)]) (m' := (75, 0)) rfl rfl rfl rfl rfl rfl h) (fun h => rr_invV0_no (S' := [.inl (am_w (z1 * l6))]) (L' := [some (.inr (.inr (am_get ω1 l0.toNat 0))), some (.inr (.inr l4)), some (.inl l7)]) (m' := (75, 0)) rfl rfl rfl rfl rfl rfl h) (fun h4 => ?_)
    refine bi_cg (fun z2 ω2 => ?_)
    refine Eq.trans (rr_iload rfl rfl) ?_
    refine Eq.trans (rr_imul rfl) ?_
    refine Eq.trans (rr_icmp_ne rfl rfl) (it_cg (fun _ => ?_) (fun _ => ?_))
    · refine Eq.trans (rr_iinc (L' := [some (.inr (.inr l0)), some (.inl l1), some (.inl l2), some (.inr (.inr l3)), some (.inr (.inr l4)), some (.inl l5), some (.inl l6), some (.inl (am_w (l7 + 1)))]) rfl rfl rfl) ?_
      refine Eq.trans (rr_goto rfl rfl) ?_
      rfl
    · refine Eq.trans (rr_iload rfl rfl) ?_
      exact rr_ireturn rfl rfl
theorem pX6_queue_0 (l0 l1 l2 : Int) (ω : am_W) (h1 : am_is ω l0 (6, 10) = true) (h2 : am_is ω (am_get ω l0.toNat 0) (5, 8) = true) : am_run (114, 0) 0 ([some (.inr (.inr l0)), some (.inl l1), some (.inl l2)], [], ω) = am_bi (am_run (58, 0) 0 ([some (.inr (.inr (am_get ω l0.toNat 0))), some (.inl l1)], [], ω)) (fun z1 ω1 => if z1 = 0 then (if am_is ω1 l0 (6, 10) = true then (am_bi (am_run (128, 0) 0 ([some (.inr (.inr l0)), some (.inl ((-2))), none], [], ω1)) (fun z2 ω2 => some (some (.inl z2), ω2))) else none) else (if l2 < 0 then (if am_is ω1 l0 (6, 10) = true then (am_bi (am_run (128, 0) 0 ([some (.inr (.inr l0)), some (.inl ((-2))), none], [], ω1)) (fun z3 ω3 => some (some (.inl z3), ω3))) else none) else (if l2 ≤ 20 then (if am_is ω1 l0 (6, 10) = true then (if am_is ω1 (am_get ω1 l0.toNat 0) (5, 8) = true then (if am_ina ω1 (am_get ω1 (am_get ω1 l0.toNat 0).toNat 4) l1 = true then (if am_is ω1 (am_get ω1 (am_get ω1 (am_get ω1 l0.toNat 0).toNat 4).toNat l1.toNat) (4, 5) = true then (if (am_get ω1 (am_get ω1 (am_get ω1 (am_get ω1 l0.toNat 0).toNat 4).toNat l1.toNat).toNat 0) = 4 then (am_bi (am_run (135, 0) 0 ([some (.inr (.inr l0)), some (.inl l1), some (.inl l2), none, none, none, none, none, none, none], [], ω1)) (fun z4 ω4 => some (some (.inl z4), ω4))) else (am_bi (am_run (128, 0) 0 ([some (.inr (.inr l0)), some (.inl ((-5))), none], [], ω1)) (fun z5 ω5 => some (some (.inl z5), ω5)))) else none) else none) else none) else none) else (if am_is ω1 l0 (6, 10) = true then (am_bi (am_run (128, 0) 0 ([some (.inr (.inr l0)), some (.inl ((-2))), none], [], ω1)) (fun z6 ω6 => some (some (.inl z6), ω6))) else none)))) := by
  refine Eq.trans (rr_aload_n rfl rfl) ?_
  refine Eq.trans (rr_getfr rfl rfl rfl h1) ?_
  refine Eq.trans (rr_iload_n rfl rfl) ?_
  refine Eq.trans (rr_invV0i (S' := []) (L' := [some (.inr (.inr (am_get ω l0.toNat 0))), some (.inl l1)]) (m' := (58, 0)) rfl rfl rfl rfl rfl rfl h2) ?_
  refine bi_cg (fun z1 ω1 => ?_)
  refine Eq.trans (rr_if_eq rfl rfl) (it_cg (fun _ => ?_) (fun _ => ?_))
  · refine Eq.trans (rr_aload_n rfl rfl) ?_
    refine Eq.trans (rr_bipush rfl rfl) ?_
    refine ck_it (fun h => rr_invV0i (S' := []) (L' := [some (.inr (.inr l0)), some (.inl ((-2))), none]) (m' := (128, 0)) rfl rfl rfl rfl rfl rfl h) (fun h => rr_invV0_no (S' := []) (L' := [some (.inr (.inr l0)), some (.inl ((-2))), none]) (m' := (128, 0)) rfl rfl rfl rfl rfl rfl h) (fun h3 => ?_)
    refine bi_cg (fun z2 ω2 => ?_)
    exact rr_ireturn rfl rfl
  · refine Eq.trans (rr_iload_n rfl rfl) ?_
    refine Eq.trans (rr_if_lt rfl rfl) (it_cg (fun _ => ?_) (fun _ => ?_))
    · refine Eq.trans (rr_aload_n rfl rfl) ?_
      refine Eq.trans (rr_bipush rfl rfl) ?_
      refine ck_it (fun h => rr_invV0i (S' := []) (L' := [some (.inr (.inr l0)), some (.inl ((-2))), none]) (m' := (128, 0)) rfl rfl rfl rfl rfl rfl h) (fun h => rr_invV0_no (S' := []) (L' := [some (.inr (.inr l0)), some (.inl ((-2))), none]) (m' := (128, 0)) rfl rfl rfl rfl rfl rfl h) (fun h4 => ?_)
      refine bi_cg (fun z3 ω3 => ?_)
      exact rr_ireturn rfl rfl
    · refine Eq.trans (rr_iload_n rfl rfl) ?_
      refine Eq.trans (rr_bipush rfl rfl) ?_
      refine Eq.trans (rr_icmp_le rfl rfl) (it_cg (fun _ => ?_) (fun _ => ?_))
      · refine Eq.trans (rr_aload_n rfl rfl) ?_
        refine ck_it (fun h => rr_getfr rfl rfl rfl h) (fun h => rr_getfield_no rfl rfl h) (fun h5 => ?_)
        refine ck_it (fun h => rr_getfr rfl rfl rfl h) (fun h => rr_getfield_no rfl rfl h) (fun h6 => ?_)
        refine Eq.trans (rr_iload_n rfl rfl) ?_
        refine ck_it (fun h => rr_aaload rfl h) (fun h => rr_aaload_no rfl h) (fun h7 => ?_)
        refine ck_it (fun h => rr_getfi rfl rfl rfl h) (fun h => rr_getfield_no rfl rfl h) (fun h8 => ?_)
        refine Eq.trans (rr_iconst rfl rfl) ?_
        refine Eq.trans (rr_icmp_eq rfl rfl) (it_cg (fun _ => ?_) (fun _ => ?_))
        · refine Eq.trans (rr_aload_n rfl rfl) ?_
          refine Eq.trans (rr_iload_n rfl rfl) ?_
          refine Eq.trans (rr_iload_n rfl rfl) ?_
          refine Eq.trans (rr_invV0i (S' := []) (L' := [some (.inr (.inr l0)), some (.inl l1), some (.inl l2), none, none, none, none, none, none, none]) (m' := (135, 0)) rfl rfl rfl rfl rfl rfl h5) ?_
          refine bi_cg (fun z4 ω4 => ?_)
          exact rr_ireturn rfl rfl
        · refine Eq.trans (rr_aload_n rfl rfl) ?_
          refine Eq.trans (rr_bipush rfl rfl) ?_
          refine Eq.trans (rr_invV0i (S' := []) (L' := [some (.inr (.inr l0)), some (.inl ((-5))), none]) (m' := (128, 0)) rfl rfl rfl rfl rfl rfl h5) ?_
          refine bi_cg (fun z5 ω5 => ?_)
          exact rr_ireturn rfl rfl
      · refine Eq.trans (rr_aload_n rfl rfl) ?_
        refine Eq.trans (rr_bipush rfl rfl) ?_
        refine ck_it (fun h => rr_invV0i (S' := []) (L' := [some (.inr (.inr l0)), some (.inl ((-2))), none]) (m' := (128, 0)) rfl rfl rfl rfl rfl rfl h) (fun h => rr_invV0_no (S' := []) (L' := [some (.inr (.inr l0)), some (.inl ((-2))), none]) (m' := (128, 0)) rfl rfl rfl rfl rfl rfl h) (fun h9 => ?_)
        refine bi_cg (fun z6 ω6 => ?_)
        exact rr_ireturn rfl rfl
theorem pX6_fullest_0 (l0 : Int) (ω : am_W) : am_run (115, 0) 0 ([some (.inr (.inr l0)), none, none], [], ω) = am_run (115, 0) 4 ([some (.inr (.inr l0)), some (.inl 0), some (.inl 1)], [], ω) := by
  refine Eq.trans (rr_iconst rfl rfl) ?_
  refine Eq.trans (rr_istore_n (L' := [some (.inr (.inr l0)), some (.inl 0), none]) rfl rfl) ?_
  refine Eq.trans (rr_iconst rfl rfl) ?_
  refine Eq.trans (rr_istore_n (L' := [some (.inr (.inr l0)), some (.inl 0), some (.inl 1)]) rfl rfl) ?_
  rfl
theorem pX6_fullest_4 (l0 l1 l2 : Int) (ω : am_W) (h1 : am_is ω l0 (6, 10) = true) (h2 : am_is ω (am_get ω l0.toNat 0) (5, 8) = true) : am_run (115, 0) 4 ([some (.inr (.inr l0)), some (.inl l1), some (.inl l2)], [], ω) = if (am_get ω (am_get ω l0.toNat 0).toNat 0) ≤ l2 then (some (some (.inl l1), ω)) else (am_bi (am_run (64, 0) 0 ([some (.inr (.inr (am_get ω l0.toNat 0))), some (.inl l2), none, none], [], ω)) (fun z1 ω1 => am_bi (am_run (234, 0) 0 ([some (.inl z1)], [], ω1)) (fun z2 ω2 => if am_is ω2 l0 (6, 10) = true then (if am_is ω2 (am_get ω2 l0.toNat 0) (5, 8) = true then (am_bi (am_run (64, 0) 0 ([some (.inr (.inr (am_get ω2 l0.toNat 0))), some (.inl l1), none, none], [], ω2)) (fun z3 ω3 => am_bi (am_run (234, 0) 0 ([some (.inl z3)], [], ω3)) (fun z4 ω4 => if z2 ≤ z4 then (am_run (115, 0) 4 ([some (.inr (.inr l0)), some (.inl l1), some (.inl (am_w (l2 + 1)))], [], ω4)) else (am_run (115, 0) 4 ([some (.inr (.inr l0)), some (.inl l2), some (.inl (am_w (l2 + 1)))], [], ω4))))) else none) else none))) := by
  refine Eq.trans (rr_iload_n rfl rfl) ?_
  refine Eq.trans (rr_aload_n rfl rfl) ?_
  refine Eq.trans (rr_getfr rfl rfl rfl h1) ?_
  refine Eq.trans (rr_getfi rfl rfl rfl h2) ?_
  refine Eq.trans (rr_icmp_ge rfl rfl) (it_cg (fun _ => ?_) (fun _ => ?_))
  · refine Eq.trans (rr_iload_n rfl rfl) ?_
    exact rr_ireturn rfl rfl
  · refine Eq.trans (rr_aload_n rfl rfl) ?_
    refine Eq.trans (rr_getfr rfl rfl rfl h1) ?_
    refine Eq.trans (rr_iload_n rfl rfl) ?_
    refine Eq.trans (rr_invV0i (S' := []) (L' := [some (.inr (.inr (am_get ω l0.toNat 0))), some (.inl l2), none, none]) (m' := (64, 0)) rfl rfl rfl rfl rfl rfl h2) ?_
    refine bi_cg (fun z1 ω1 => ?_)
    refine Eq.trans (rr_invS2i (S' := []) (L' := [some (.inl z1)]) (m' := (234, 0)) rfl rfl rfl rfl rfl rfl) ?_
    refine bi_cg (fun z2 ω2 => ?_)
    refine Eq.trans (rr_aload_n rfl rfl) ?_
    refine ck_it (fun h => rr_getfr rfl rfl rfl h) (fun h => rr_getfield_no rfl rfl h) (fun h3 => ?_)
    refine Eq.trans (rr_iload_n rfl rfl) ?_
    refine ck_it (fun h => rr_invV0i (S' := [.inl z2]) (L' := [some (.inr (.inr (am_get ω2 l0.toNat 0))), some (.inl l1), none, none]) (m' := (64, 0)) rfl rfl rfl rfl rfl rfl h) (fun h => rr_invV0_no (S' := [.inl z2]) (L' := [some (.inr (.inr (am_get ω2 l0.toNat 0))), some (.inl l1), none, none]) (m' := (64, 0)) rfl rfl rfl rfl rfl rfl h) (fun h4 => ?_)
    refine bi_cg (fun z3 ω3 => ?_)
    refine Eq.trans (rr_invS2i (S' := [.inl z2]) (L' := [some (.inl z3)]) (m' := (234, 0)) rfl rfl rfl rfl rfl rfl) ?_
    refine bi_cg (fun z4 ω4 => ?_)
    refine Eq.trans (rr_icmp_le rfl rfl) (it_cg (fun _ => ?_) (fun _ => ?_))
    · refine Eq.trans (rr_iinc (L' := [some (.inr (.inr l0)), some (.inl l1), some (.inl (am_w (l2 + 1)))]) rfl rfl rfl) ?_
      refine Eq.trans (rr_goto rfl rfl) ?_
      rfl
    · refine Eq.trans (rr_iload_n rfl rfl) ?_
      refine Eq.trans (rr_istore_n (L' := [some (.inr (.inr l0)), some (.inl l2), some (.inl l2)]) rfl rfl) ?_
      refine Eq.trans (rr_iinc (L' := [some (.inr (.inr l0)), some (.inl l2), some (.inl (am_w (l2 + 1)))]) rfl rfl rfl) ?_
      refine Eq.trans (rr_goto rfl rfl) ?_
      rfl
theorem pX6_clash_0 (l0 l1 : Int) (ω : am_W) : am_run (116, 0) 0 ([some (.inr (.inr l0)), some (.inl l1), none], [], ω) = am_bi (am_run (144, 0) 0 ([some (.inl l1)], [], ω)) (fun z1 ω1 => if ¬ z1 = 0 then (am_run (116, 0) 16 ([some (.inr (.inr l0)), some (.inl l1), some (.inl 0)], [], ω1)) else (if am_is ω1 l0 (6, 10) = true then (am_bi (am_run (128, 0) 0 ([some (.inr (.inr l0)), some (.inl ((-2))), none], [], ω1)) (fun z2 ω2 => some (some (.inl z2), ω2))) else none)) := by
  refine Eq.trans (rr_iload_n rfl rfl) ?_
  refine Eq.trans (rr_invS2i (S' := []) (L' := [some (.inl l1)]) (m' := (144, 0)) rfl rfl rfl rfl rfl rfl) ?_
  refine bi_cg (fun z1 ω1 => ?_)
  refine Eq.trans (rr_if_ne rfl rfl) (it_cg (fun _ => ?_) (fun _ => ?_))
  · refine Eq.trans (rr_iconst rfl rfl) ?_
    refine Eq.trans (rr_istore_n (L' := [some (.inr (.inr l0)), some (.inl l1), some (.inl 0)]) rfl rfl) ?_
    rfl
  · refine Eq.trans (rr_aload_n rfl rfl) ?_
    refine Eq.trans (rr_bipush rfl rfl) ?_
    refine ck_it (fun h => rr_invV0i (S' := []) (L' := [some (.inr (.inr l0)), some (.inl ((-2))), none]) (m' := (128, 0)) rfl rfl rfl rfl rfl rfl h) (fun h => rr_invV0_no (S' := []) (L' := [some (.inr (.inr l0)), some (.inl ((-2))), none]) (m' := (128, 0)) rfl rfl rfl rfl rfl rfl h) (fun h1 => ?_)
    refine bi_cg (fun z2 ω2 => ?_)
    exact rr_ireturn rfl rfl
theorem pX6_clash_16 (l0 l1 l2 : Int) (ω : am_W) (h1 : am_is ω l0 (6, 10) = true) (h2 : am_is ω (am_get ω l0.toNat 0) (5, 8) = true) : am_run (116, 0) 16 ([some (.inr (.inr l0)), some (.inl l1), some (.inl l2)], [], ω) = if l1 < l2 then (some (some (.inl ((-1))), ω)) else (am_bi (am_run (79, 0) 0 ([some (.inr (.inr (am_get ω l0.toNat 0))), some (.inl l2), none, none, none], [], ω)) (fun z1 ω1 => if z1 = 0 then (am_run (116, 0) 16 ([some (.inr (.inr l0)), some (.inl l1), some (.inl (am_w (l2 + 1)))], [], ω1)) else (some (some (.inl l2), ω1)))) := by
  refine Eq.trans (rr_iload_n rfl rfl) ?_
  refine Eq.trans (rr_iload_n rfl rfl) ?_
  refine Eq.trans (rr_icmp_gt rfl rfl) (it_cg (fun _ => ?_) (fun _ => ?_))
  · refine Eq.trans (rr_iconst rfl rfl) ?_
    exact rr_ireturn rfl rfl
  · refine Eq.trans (rr_aload_n rfl rfl) ?_
    refine Eq.trans (rr_getfr rfl rfl rfl h1) ?_
    refine Eq.trans (rr_iload_n rfl rfl) ?_
    refine Eq.trans (rr_invV0i (S' := []) (L' := [some (.inr (.inr (am_get ω l0.toNat 0))), some (.inl l2), none, none, none]) (m' := (79, 0)) rfl rfl rfl rfl rfl rfl h2) ?_
    refine bi_cg (fun z1 ω1 => ?_)
    refine Eq.trans (rr_if_eq rfl rfl) (it_cg (fun _ => ?_) (fun _ => ?_))
    · refine Eq.trans (rr_iinc (L' := [some (.inr (.inr l0)), some (.inl l1), some (.inl (am_w (l2 + 1)))]) rfl rfl rfl) ?_
      refine Eq.trans (rr_goto rfl rfl) ?_
      rfl
    · refine Eq.trans (rr_iload_n rfl rfl) ?_
      exact rr_ireturn rfl rfl
theorem pX6_burnt_0 (l0 l1 l2 l3 : Int) (ω : am_W) (h1 : am_is ω l0 (6, 10) = true) (h2 : am_is ω (am_get ω l0.toNat 0) (5, 8) = true) : am_run (117, 0) 0 ([some (.inr (.inr l0)), some (.inl l1), some (.inl l2), some (.inl l3), none, none], [], ω) = if l2 < 1 then (am_run (117, 0) 26 ([some (.inr (.inr l0)), some (.inl l1), some (.inl l2), some (.inl l3), none, none], [], ω)) else (if 10 < l2 then (am_run (117, 0) 26 ([some (.inr (.inr l0)), some (.inl l1), some (.inl l2), some (.inl l3), none, none], [], ω)) else (am_bi (am_run (58, 0) 0 ([some (.inr (.inr (am_get ω l0.toNat 0))), some (.inl l3)], [], ω)) (fun z1 ω1 => if z1 = 0 then (am_run (117, 0) 26 ([some (.inr (.inr l0)), some (.inl l1), some (.inl l2), some (.inl l3), none, none], [], ω1)) else (am_run (117, 0) 27 ([some (.inr (.inr l0)), some (.inl l1), some (.inl l2), some (.inl l3), none, none], [.inl 1], ω1))))) := by
  refine Eq.trans (rr_iload_n rfl rfl) ?_
  refine Eq.trans (rr_iconst rfl rfl) ?_
  refine Eq.trans (rr_icmp_lt rfl rfl) (it_cg (fun _ => ?_) (fun _ => ?_))
  · rfl
  · refine Eq.trans (rr_iload_n rfl rfl) ?_
    refine Eq.trans (rr_bipush rfl rfl) ?_
    refine Eq.trans (rr_icmp_gt rfl rfl) (it_cg (fun _ => ?_) (fun _ => ?_))
    · rfl
    · refine Eq.trans (rr_aload_n rfl rfl) ?_
      refine Eq.trans (rr_getfr rfl rfl rfl h1) ?_
      refine Eq.trans (rr_iload_n rfl rfl) ?_
      refine Eq.trans (rr_invV0i (S' := []) (L' := [some (.inr (.inr (am_get ω l0.toNat 0))), some (.inl l3)]) (m' := (58, 0)) rfl rfl rfl rfl rfl rfl h2) ?_
      refine bi_cg (fun z1 ω1 => ?_)
      refine Eq.trans (rr_if_eq rfl rfl) (it_cg (fun _ => ?_) (fun _ => ?_))
      · rfl
      · refine Eq.trans (rr_iconst rfl rfl) ?_
        refine Eq.trans (rr_goto rfl rfl) ?_
        rfl
theorem pX6_burnt_26 (l0 l1 l2 l3 : Int) (o4 o5 : Option am_V) (ω : am_W) : am_run (117, 0) 26 ([some (.inr (.inr l0)), some (.inl l1), some (.inl l2), some (.inl l3), o4, o5], [], ω) = am_run (117, 0) 27 ([some (.inr (.inr l0)), some (.inl l1), some (.inl l2), some (.inl l3), o4, o5], [.inl 0], ω) := by
  refine Eq.trans (rr_iconst rfl rfl) ?_
  rfl
theorem pX6_burnt_27 (l0 l1 l2 l3 s0 : Int) (o4 o5 : Option am_V) (ω : am_W) : am_run (117, 0) 27 ([some (.inr (.inr l0)), some (.inl l1), some (.inl l2), some (.inl l3), o4, o5], [.inl s0], ω) = if s0 = 0 then (am_run (117, 0) 45 ([some (.inr (.inr l0)), some (.inl l1), some (.inl l2), some (.inl l3), some (.inl s0), o5], [.inl 0, .inl s0, .inl l1, .inr (.inr l0)], ω)) else (am_run (117, 0) 45 ([some (.inr (.inr l0)), some (.inl l1), some (.inl l2), some (.inl l3), some (.inl s0), o5], [.inl (am_w (3 * l2)), .inl s0, .inl l1, .inr (.inr l0)], ω)) := by
  refine Eq.trans (rr_istore (L' := [some (.inr (.inr l0)), some (.inl l1), some (.inl l2), some (.inl l3), some (.inl s0), o5]) rfl rfl) ?_
  refine Eq.trans (rr_aload_n rfl rfl) ?_
  refine Eq.trans (rr_iload_n rfl rfl) ?_
  refine Eq.trans (rr_iload rfl rfl) ?_
  refine Eq.trans (rr_iload rfl rfl) ?_
  refine Eq.trans (rr_if_eq rfl rfl) (it_cg (fun _ => ?_) (fun _ => ?_))
  · refine Eq.trans (rr_iconst rfl rfl) ?_
    rfl
  · refine Eq.trans (rr_iconst rfl rfl) ?_
    refine Eq.trans (rr_iload_n rfl rfl) ?_
    refine Eq.trans (rr_imul rfl) ?_
    refine Eq.trans (rr_goto rfl rfl) ?_
    rfl
theorem pX6_burnt_45 (l0 l1 l2 l3 l4 s0 s1 s2 s3 : Int) (o5 : Option am_V) (ω : am_W) (h1 : am_is ω s0 (6, 10) = true) : am_run (117, 0) 45 ([some (.inr (.inr l0)), some (.inl l1), some (.inl l2), some (.inl l3), some (.inl l4), o5], [.inl s3, .inl s2, .inl s1, .inr (.inr s0)], ω) = am_bi (am_run (131, 0) 0 ([some (.inr (.inr s0)), some (.inl s1), some (.inl s2), some (.inl s3), none], [], ω)) (fun z1 ω1 => if z1 = 0 then (if am_is ω1 l0 (6, 10) = true then (if am_ina ω1 (am_get ω1 l0.toNat 4) l1 = true then (am_bi (am_run (136, 0) 0 ([some (.inr (.inr l0)), some (.inr (.inr (am_get ω1 (am_get ω1 l0.toNat 4).toNat l1.toNat))), some (.inl l2), none, none, none, none, none, none, none, none, none], [], ω1)) (fun z2 ω2 => if ¬ z2 = 0 then (if am_is ω2 l0 (6, 10) = true then (am_ba (am_run (139, 0) 0 ([some (.inr (.inr l0))], [], ω2)) (fun z3 ω3 => if am_is ω3 l0 (6, 10) = true then (if am_is ω3 (am_get ω3 l0.toNat 0) (5, 8) = true then (if am_ina ω3 (am_get ω3 (am_get ω3 l0.toNat 0).toNat 4) l3 = true then (if am_ina ω3 (am_get ω3 l0.toNat 4) l1 = true then (if am_is ω3 z3 (1, 15) = true then (am_bi (am_run (7, 0) 0 ([some (.inr (.inr z3)), some (.inr (.inr (am_get ω3 (am_get ω3 (am_get ω3 l0.toNat 0).toNat 4).toNat l3.toNat))), some (.inr (.inr (am_get ω3 (am_get ω3 l0.toNat 4).toNat l1.toNat))), some (.inl l2), none, none, none, none, none], [], ω3)) (fun z4 ω4 => some (some (.inl z4), ω4))) else none) else none) else none) else none) else none)) else none) else (if am_is ω2 l0 (6, 10) = true then (am_bi (am_run (128, 0) 0 ([some (.inr (.inr l0)), some (.inl ((-2))), none], [], ω2)) (fun z5 ω5 => some (some (.inl z5), ω5))) else none))) else none) else none) else (if am_is ω1 l0 (6, 10) = true then (am_bi (am_run (128, 0) 0 ([some (.inr (.inr l0)), some (.inl z1), none], [], ω1)) (fun z6 ω6 => some (some (.inl z6), ω6))) else none)) := by
  refine Eq.trans (rr_invV0i (S' := []) (L' := [some (.inr (.inr s0)), some (.inl s1), some (.inl s2), some (.inl s3), none]) (m' := (131, 0)) rfl rfl rfl rfl rfl rfl h1) ?_
  refine bi_cg (fun z1 ω1 => ?_)
  refine Eq.trans (rr_istore (L' := [some (.inr (.inr l0)), some (.inl l1), some (.inl l2), some (.inl l3), some (.inl l4), some (.inl z1)]) rfl rfl) ?_
  refine Eq.trans (rr_iload rfl rfl) ?_
  refine Eq.trans (rr_if_eq rfl rfl) (it_cg (fun _ => ?_) (fun _ => ?_))
  · refine Eq.trans (rr_aload_n rfl rfl) ?_
    refine Eq.trans (rr_aload_n rfl rfl) ?_
    refine ck_it (fun h => rr_getfr rfl rfl rfl h) (fun h => rr_getfield_no rfl rfl h) (fun h2 => ?_)
    refine Eq.trans (rr_iload_n rfl rfl) ?_
    refine ck_it (fun h => rr_aaload rfl h) (fun h => rr_aaload_no rfl h) (fun h3 => ?_)
    refine Eq.trans (rr_iload_n rfl rfl) ?_
    refine Eq.trans (rr_invV0i (S' := []) (L' := [some (.inr (.inr l0)), some (.inr (.inr (am_get ω1 (am_get ω1 l0.toNat 4).toNat l1.toNat))), some (.inl l2), none, none, none, none, none, none, none, none, none]) (m' := (136, 0)) rfl rfl rfl rfl rfl rfl h2) ?_
    refine bi_cg (fun z2 ω2 => ?_)
    refine Eq.trans (rr_if_ne rfl rfl) (it_cg (fun _ => ?_) (fun _ => ?_))
    · refine Eq.trans (rr_aload_n rfl rfl) ?_
      refine ck_it (fun h => rr_invV0a (S' := []) (L' := [some (.inr (.inr l0))]) (m' := (139, 0)) rfl rfl rfl rfl rfl rfl h) (fun h => rr_invV0_no (S' := []) (L' := [some (.inr (.inr l0))]) (m' := (139, 0)) rfl rfl rfl rfl rfl rfl h) (fun h4 => ?_)
      refine ba_cg (fun z3 ω3 => ?_)
      refine Eq.trans (rr_aload_n rfl rfl) ?_
      refine ck_it (fun h => rr_getfr rfl rfl rfl h) (fun h => rr_getfield_no rfl rfl h) (fun h5 => ?_)
      refine ck_it (fun h => rr_getfr rfl rfl rfl h) (fun h => rr_getfield_no rfl rfl h) (fun h6 => ?_)
      refine Eq.trans (rr_iload_n rfl rfl) ?_
      refine ck_it (fun h => rr_aaload rfl h) (fun h => rr_aaload_no rfl h) (fun h7 => ?_)
      refine Eq.trans (rr_aload_n rfl rfl) ?_
      refine Eq.trans (rr_getfr rfl rfl rfl h5) ?_
      refine Eq.trans (rr_iload_n rfl rfl) ?_
      refine ck_it (fun h => rr_aaload rfl h) (fun h => rr_aaload_no rfl h) (fun h8 => ?_)
      refine Eq.trans (rr_iload_n rfl rfl) ?_
      refine ck_it (fun h => rr_invV0i (S' := []) (L' := [some (.inr (.inr z3)), some (.inr (.inr (am_get ω3 (am_get ω3 (am_get ω3 l0.toNat 0).toNat 4).toNat l3.toNat))), some (.inr (.inr (am_get ω3 (am_get ω3 l0.toNat 4).toNat l1.toNat))), some (.inl l2), none, none, none, none, none]) (m' := (7, 0)) rfl rfl rfl rfl rfl rfl h) (fun h => rr_invV0_no (S' := []) (L' := [some (.inr (.inr z3)), some (.inr (.inr (am_get ω3 (am_get ω3 (am_get ω3 l0.toNat 0).toNat 4).toNat l3.toNat))), some (.inr (.inr (am_get ω3 (am_get ω3 l0.toNat 4).toNat l1.toNat))), some (.inl l2), none, none, none, none, none]) (m' := (7, 0)) rfl rfl rfl rfl rfl rfl h) (fun h9 => ?_)
      refine bi_cg (fun z4 ω4 => ?_)
      exact rr_ireturn rfl rfl
    · refine Eq.trans (rr_aload_n rfl rfl) ?_
      refine Eq.trans (rr_bipush rfl rfl) ?_
      refine ck_it (fun h => rr_invV0i (S' := []) (L' := [some (.inr (.inr l0)), some (.inl ((-2))), none]) (m' := (128, 0)) rfl rfl rfl rfl rfl rfl h) (fun h => rr_invV0_no (S' := []) (L' := [some (.inr (.inr l0)), some (.inl ((-2))), none]) (m' := (128, 0)) rfl rfl rfl rfl rfl rfl h) (fun h10 => ?_)
      refine bi_cg (fun z5 ω5 => ?_)
      exact rr_ireturn rfl rfl
  · refine Eq.trans (rr_aload_n rfl rfl) ?_
    refine Eq.trans (rr_iload rfl rfl) ?_
    refine ck_it (fun h => rr_invV0i (S' := []) (L' := [some (.inr (.inr l0)), some (.inl z1), none]) (m' := (128, 0)) rfl rfl rfl rfl rfl rfl h) (fun h => rr_invV0_no (S' := []) (L' := [some (.inr (.inr l0)), some (.inl z1), none]) (m' := (128, 0)) rfl rfl rfl rfl rfl rfl h) (fun h11 => ?_)
    refine bi_cg (fun z6 ω6 => ?_)
    exact rr_ireturn rfl rfl
theorem pX6_tag_0 (l0 l1 l2 l3 : Int) (ω : am_W) (h1 : am_is ω l0 (6, 10) = true) (h2 : am_is ω (am_get ω l0.toNat 0) (5, 8) = true) : am_run (118, 0) 0 ([some (.inr (.inr l0)), some (.inl l1), some (.inl l2), some (.inl l3)], [], ω) = am_bi (am_run (59, 0) 0 ([some (.inr (.inr (am_get ω l0.toNat 0))), some (.inl l1), some (.inl l2)], [], ω)) (fun z1 ω1 => if z1 = 0 then (if am_is ω1 l0 (6, 10) = true then (am_bi (am_run (128, 0) 0 ([some (.inr (.inr l0)), some (.inl ((-2))), none], [], ω1)) (fun z2 ω2 => some (some (.inl z2), ω2))) else none) else (if l3 < 0 then (if am_is ω1 l0 (6, 10) = true then (am_bi (am_run (128, 0) 0 ([some (.inr (.inr l0)), some (.inl ((-2))), none], [], ω1)) (fun z3 ω3 => some (some (.inl z3), ω3))) else none) else (if l3 ≤ 5 then (if am_is ω1 l0 (6, 10) = true then (if (am_get ω1 l0.toNat 9) = -1 then (if am_is (am_new ω1 (0, 3) (am_d0 0)) l0 (6, 10) = true then (if am_is (am_new ω1 (0, 3) (am_d0 0)) (((ω1).1.length : Int)) (0, 3) = true then (am_bv (am_run (0, 0) 0 ([some (.inr (.inr (((ω1).1.length : Int)))), some (.inr (.inr (am_get (am_new ω1 (0, 3) (am_d0 0)) l0.toNat 0))), none], [], am_new ω1 (0, 3) (am_d0 0))) (fun ω5 => if am_is ω5 l0 (6, 10) = true then (if am_is (am_put ω5 l0.toNat 9 (((ω1).1.length : Int))) (am_get (am_put ω5 l0.toNat 9 (((ω1).1.length : Int))) l0.toNat 9) (0, 3) = true then (am_bi (am_run (1, 0) 0 ([some (.inr (.inr (am_get (am_put ω5 l0.toNat 9 (((ω1).1.length : Int))) l0.toNat 9))), some (.inl l1), some (.inl l2), some (.inl l3)], [], am_put ω5 l0.toNat 9 (((ω1).1.length : Int)))) (fun z6 ω6 => if z6 = 0 then (some (some (.inl 0), ω6)) else (some (some (.inl 1), ω6)))) else none) else none)) else none) else none) else (if am_is ω1 (am_get ω1 l0.toNat 9) (0, 3) = true then (am_bi (am_run (1, 0) 0 ([some (.inr (.inr (am_get ω1 l0.toNat 9))), some (.inl l1), some (.inl l2), some (.inl l3)], [], ω1)) (fun z7 ω7 => if z7 = 0 then (some (some (.inl 0), ω7)) else (some (some (.inl 1), ω7)))) else none)) else none) else (if am_is ω1 l0 (6, 10) = true then (am_bi (am_run (128, 0) 0 ([some (.inr (.inr l0)), some (.inl ((-2))), none], [], ω1)) (fun z8 ω8 => some (some (.inl z8), ω8))) else none)))) := by
  refine Eq.trans (rr_aload_n rfl rfl) ?_
  refine Eq.trans (rr_getfr rfl rfl rfl h1) ?_
  refine Eq.trans (rr_iload_n rfl rfl) ?_
  refine Eq.trans (rr_iload_n rfl rfl) ?_
  refine Eq.trans (rr_invV0i (S' := []) (L' := [some (.inr (.inr (am_get ω l0.toNat 0))), some (.inl l1), some (.inl l2)]) (m' := (59, 0)) rfl rfl rfl rfl rfl rfl h2) ?_
  refine bi_cg (fun z1 ω1 => ?_)
  refine Eq.trans (rr_if_eq rfl rfl) (it_cg (fun _ => ?_) (fun _ => ?_))
  · refine Eq.trans (rr_aload_n rfl rfl) ?_
    refine Eq.trans (rr_bipush rfl rfl) ?_
    refine ck_it (fun h => rr_invV0i (S' := []) (L' := [some (.inr (.inr l0)), some (.inl ((-2))), none]) (m' := (128, 0)) rfl rfl rfl rfl rfl rfl h) (fun h => rr_invV0_no (S' := []) (L' := [some (.inr (.inr l0)), some (.inl ((-2))), none]) (m' := (128, 0)) rfl rfl rfl rfl rfl rfl h) (fun h3 => ?_)
    refine bi_cg (fun z2 ω2 => ?_)
    exact rr_ireturn rfl rfl
  · refine Eq.trans (rr_iload_n rfl rfl) ?_
    refine Eq.trans (rr_if_lt rfl rfl) (it_cg (fun _ => ?_) (fun _ => ?_))
    · refine Eq.trans (rr_aload_n rfl rfl) ?_
      refine Eq.trans (rr_bipush rfl rfl) ?_
      refine ck_it (fun h => rr_invV0i (S' := []) (L' := [some (.inr (.inr l0)), some (.inl ((-2))), none]) (m' := (128, 0)) rfl rfl rfl rfl rfl rfl h) (fun h => rr_invV0_no (S' := []) (L' := [some (.inr (.inr l0)), some (.inl ((-2))), none]) (m' := (128, 0)) rfl rfl rfl rfl rfl rfl h) (fun h4 => ?_)
      refine bi_cg (fun z3 ω3 => ?_)
      exact rr_ireturn rfl rfl
    · refine Eq.trans (rr_iload_n rfl rfl) ?_
      refine Eq.trans (rr_iconst rfl rfl) ?_
      refine Eq.trans (rr_icmp_le rfl rfl) (it_cg (fun _ => ?_) (fun _ => ?_))
      · refine Eq.trans (rr_aload_n rfl rfl) ?_
        refine ck_it (fun h => rr_getfr rfl rfl rfl h) (fun h => rr_getfield_no rfl rfl h) (fun h5 => ?_)
        refine Eq.trans (rr_ifnonnull rfl rfl) (it_cg (fun _ => ?_) (fun _ => ?_))
        · refine Eq.trans (rr_aload_n rfl rfl) ?_
          refine Eq.trans (rr_new rfl rfl rfl) ?_
          refine Eq.trans (rr_dupr rfl) ?_
          refine Eq.trans (rr_aload_n rfl rfl) ?_
          refine ck_it (fun h => rr_getfr rfl rfl rfl h) (fun h => rr_getfield_no rfl rfl h) (fun h6 => ?_)
          refine ck_it (fun h => rr_invI4v (S' := [.inr (.inr (((ω1).1.length : Int))), .inr (.inr l0)]) (L' := [some (.inr (.inr (((ω1).1.length : Int)))), some (.inr (.inr (am_get (am_new ω1 (0, 3) (am_d0 0)) l0.toNat 0))), none]) (m' := (0, 0)) rfl rfl rfl rfl rfl rfl h) (fun h => rr_invI4_no (S' := [.inr (.inr (((ω1).1.length : Int))), .inr (.inr l0)]) (L' := [some (.inr (.inr (((ω1).1.length : Int)))), some (.inr (.inr (am_get (am_new ω1 (0, 3) (am_d0 0)) l0.toNat 0))), none]) (m' := (0, 0)) rfl rfl rfl rfl rfl rfl h) (fun h7 => ?_)
          refine bv_cg (fun ω5 => ?_)
          refine ck_it (fun h => rr_putfieldr rfl rfl (by rw [Bool.and_eq_true, Bool.and_eq_true]; exact ⟨rfl, rfl, decide_eq_true (by omega)⟩) h) (fun h => rr_putfieldr_no rfl rfl h) (fun h8 => ?_)
          refine Eq.trans (rr_aload_n rfl rfl) ?_
          refine Eq.trans (rr_getfr rfl rfl rfl h8) ?_
          refine Eq.trans (rr_iload_n rfl rfl) ?_
          refine Eq.trans (rr_iload_n rfl rfl) ?_
          refine Eq.trans (rr_iload_n rfl rfl) ?_
          refine ck_it (fun h => rr_invV0i (S' := []) (L' := [some (.inr (.inr (am_get (am_put ω5 l0.toNat 9 (((ω1).1.length : Int))) l0.toNat 9))), some (.inl l1), some (.inl l2), some (.inl l3)]) (m' := (1, 0)) rfl rfl rfl rfl rfl rfl h) (fun h => rr_invV0_no (S' := []) (L' := [some (.inr (.inr (am_get (am_put ω5 l0.toNat 9 (((ω1).1.length : Int))) l0.toNat 9))), some (.inl l1), some (.inl l2), some (.inl l3)]) (m' := (1, 0)) rfl rfl rfl rfl rfl rfl h) (fun h9 => ?_)
          refine bi_cg (fun z6 ω6 => ?_)
          refine Eq.trans (rr_if_eq rfl rfl) (it_cg (fun _ => ?_) (fun _ => ?_))
          · refine Eq.trans (rr_iconst rfl rfl) ?_
            exact rr_ireturn rfl rfl
          · refine Eq.trans (rr_iconst rfl rfl) ?_
            refine Eq.trans (rr_goto rfl rfl) ?_
            exact rr_ireturn rfl rfl
        · refine Eq.trans (rr_aload_n rfl rfl) ?_
          refine Eq.trans (rr_getfr rfl rfl rfl h5) ?_
          refine Eq.trans (rr_iload_n rfl rfl) ?_
          refine Eq.trans (rr_iload_n rfl rfl) ?_
          refine Eq.trans (rr_iload_n rfl rfl) ?_
          refine ck_it (fun h => rr_invV0i (S' := []) (L' := [some (.inr (.inr (am_get ω1 l0.toNat 9))), some (.inl l1), some (.inl l2), some (.inl l3)]) (m' := (1, 0)) rfl rfl rfl rfl rfl rfl h) (fun h => rr_invV0_no (S' := []) (L' := [some (.inr (.inr (am_get ω1 l0.toNat 9))), some (.inl l1), some (.inl l2), some (.inl l3)]) (m' := (1, 0)) rfl rfl rfl rfl rfl rfl h) (fun h10 => ?_)
          refine bi_cg (fun z7 ω7 => ?_)
          refine Eq.trans (rr_if_eq rfl rfl) (it_cg (fun _ => ?_) (fun _ => ?_))
          · refine Eq.trans (rr_iconst rfl rfl) ?_
            exact rr_ireturn rfl rfl
          · refine Eq.trans (rr_iconst rfl rfl) ?_
            refine Eq.trans (rr_goto rfl rfl) ?_
            exact rr_ireturn rfl rfl
      · refine Eq.trans (rr_aload_n rfl rfl) ?_
        refine Eq.trans (rr_bipush rfl rfl) ?_
        refine ck_it (fun h => rr_invV0i (S' := []) (L' := [some (.inr (.inr l0)), some (.inl ((-2))), none]) (m' := (128, 0)) rfl rfl rfl rfl rfl rfl h) (fun h => rr_invV0_no (S' := []) (L' := [some (.inr (.inr l0)), some (.inl ((-2))), none]) (m' := (128, 0)) rfl rfl rfl rfl rfl rfl h) (fun h11 => ?_)
        refine bi_cg (fun z8 ω8 => ?_)
        exact rr_ireturn rfl rfl
theorem pX6_step_0 (l0 l1 : Int) (ω : am_W) (h1 : am_is ω l0 (6, 10) = true) (h2 : am_is ω (am_get ω l0.toNat 0) (5, 8) = true) : am_run (119, 0) 0 ([some (.inr (.inr l0)), some (.inl l1)], [], ω) = if l1 < 1 then (am_bi (am_run (128, 0) 0 ([some (.inr (.inr l0)), some (.inl ((-2))), none], [], ω)) (fun z1 ω1 => some (some (.inl z1), ω1))) else (if l1 ≤ 60 then (am_bi (am_run (77, 0) 0 ([some (.inr (.inr (am_get ω l0.toNat 0))), some (.inl l1), none, none, none], [], ω)) (fun z2 ω2 => some (some (.inl z2), ω2))) else (am_bi (am_run (128, 0) 0 ([some (.inr (.inr l0)), some (.inl ((-2))), none], [], ω)) (fun z3 ω3 => some (some (.inl z3), ω3)))) := by
  refine Eq.trans (rr_iload_n rfl rfl) ?_
  refine Eq.trans (rr_iconst rfl rfl) ?_
  refine Eq.trans (rr_icmp_lt rfl rfl) (it_cg (fun _ => ?_) (fun _ => ?_))
  · refine Eq.trans (rr_aload_n rfl rfl) ?_
    refine Eq.trans (rr_bipush rfl rfl) ?_
    refine Eq.trans (rr_invV0i (S' := []) (L' := [some (.inr (.inr l0)), some (.inl ((-2))), none]) (m' := (128, 0)) rfl rfl rfl rfl rfl rfl h1) ?_
    refine bi_cg (fun z1 ω1 => ?_)
    exact rr_ireturn rfl rfl
  · refine Eq.trans (rr_iload_n rfl rfl) ?_
    refine Eq.trans (rr_bipush rfl rfl) ?_
    refine Eq.trans (rr_icmp_le rfl rfl) (it_cg (fun _ => ?_) (fun _ => ?_))
    · refine Eq.trans (rr_aload_n rfl rfl) ?_
      refine Eq.trans (rr_getfr rfl rfl rfl h1) ?_
      refine Eq.trans (rr_iload_n rfl rfl) ?_
      refine Eq.trans (rr_invV0i (S' := []) (L' := [some (.inr (.inr (am_get ω l0.toNat 0))), some (.inl l1), none, none, none]) (m' := (77, 0)) rfl rfl rfl rfl rfl rfl h2) ?_
      refine bi_cg (fun z2 ω2 => ?_)
      exact rr_ireturn rfl rfl
    · refine Eq.trans (rr_aload_n rfl rfl) ?_
      refine Eq.trans (rr_bipush rfl rfl) ?_
      refine Eq.trans (rr_invV0i (S' := []) (L' := [some (.inr (.inr l0)), some (.inl ((-2))), none]) (m' := (128, 0)) rfl rfl rfl rfl rfl rfl h1) ?_
      refine bi_cg (fun z3 ω3 => ?_)
      exact rr_ireturn rfl rfl
theorem pX6_change_0 (l0 l1 l2 : Int) (ω : am_W) (h1 : am_is ω l0 (6, 10) = true) (h2 : am_is ω (am_get ω l0.toNat 0) (5, 8) = true) : am_run (120, 0) 0 ([some (.inr (.inr l0)), some (.inl l1), some (.inl l2), none, none], [], ω) = am_bi (am_run (58, 0) 0 ([some (.inr (.inr (am_get ω l0.toNat 0))), some (.inl l1)], [], ω)) (fun z1 ω1 => if z1 = 0 then (if am_is ω1 l0 (6, 10) = true then (am_bi (am_run (128, 0) 0 ([some (.inr (.inr l0)), some (.inl ((-2))), none], [], ω1)) (fun z2 ω2 => some (some (.inl z2), ω2))) else none) else (am_bi (am_run (142, 0) 0 ([some (.inl l2)], [], ω1)) (fun z3 ω3 => if ¬ z3 = 0 then (if am_is ω3 l0 (6, 10) = true then (if am_is ω3 (am_get ω3 l0.toNat 0) (5, 8) = true then (if am_ina ω3 (am_get ω3 (am_get ω3 l0.toNat 0).toNat 4) l1 = true then (am_bi (am_run (72, 0) 0 ([some (.inr (.inr (am_get ω3 l0.toNat 0))), some (.inr (.inr (am_get ω3 (am_get ω3 (am_get ω3 l0.toNat 0).toNat 4).toNat l1.toNat))), some (.inl l2), none], [], ω3)) (fun z4 ω4 => if ¬ z4 = 0 then (if am_is ω4 l0 (6, 10) = true then (if am_is ω4 (am_get ω3 (am_get ω3 (am_get ω3 l0.toNat 0).toNat 4).toNat l1.toNat) (4, 5) = true then (if am_is ω4 (am_get ω4 l0.toNat 0) (5, 8) = true then (am_bi (am_run (69, 0) 0 ([some (.inr (.inr (am_get ω4 l0.toNat 0))), some (.inr (.inr (am_get ω3 (am_get ω3 (am_get ω3 l0.toNat 0).toNat 4).toNat l1.toNat))), some (.inl (am_get ω4 (am_get ω3 (am_get ω3 (am_get ω3 l0.toNat 0).toNat 4).toNat l1.toNat).toNat 1)), some (.inl l2), none], [], ω4)) (fun z5 ω5 => if am_is ω5 (am_get ω3 (am_get ω3 (am_get ω3 l0.toNat 0).toNat 4).toNat l1.toNat) (4, 5) = true then (if am_is (am_put ω5 (am_get ω3 (am_get ω3 (am_get ω3 l0.toNat 0).toNat 4).toNat l1.toNat).toNat 3 (am_w ((am_get ω5 (am_get ω3 (am_get ω3 (am_get ω3 l0.toNat 0).toNat 4).toNat l1.toNat).toNat 3) - z5))) l0 (6, 10) = true then (if am_is (am_put ω5 (am_get ω3 (am_get ω3 (am_get ω3 l0.toNat 0).toNat 4).toNat l1.toNat).toNat 3 (am_w ((am_get ω5 (am_get ω3 (am_get ω3 (am_get ω3 l0.toNat 0).toNat 4).toNat l1.toNat).toNat 3) - z5))) (am_get (am_put ω5 (am_get ω3 (am_get ω3 (am_get ω3 l0.toNat 0).toNat 4).toNat l1.toNat).toNat 3 (am_w ((am_get ω5 (am_get ω3 (am_get ω3 (am_get ω3 l0.toNat 0).toNat 4).toNat l1.toNat).toNat 3) - z5))) l0.toNat 0) (5, 8) = true then (am_bv (am_run (73, 0) 0 ([some (.inr (.inr (am_get (am_put ω5 (am_get ω3 (am_get ω3 (am_get ω3 l0.toNat 0).toNat 4).toNat l1.toNat).toNat 3 (am_w ((am_get ω5 (am_get ω3 (am_get ω3 (am_get ω3 l0.toNat 0).toNat 4).toNat l1.toNat).toNat 3) - z5))) l0.toNat 0))), some (.inr (.inr (am_get ω3 (am_get ω3 (am_get ω3 l0.toNat 0).toNat 4).toNat l1.toNat))), some (.inl l2), none], [], am_put ω5 (am_get ω3 (am_get ω3 (am_get ω3 l0.toNat 0).toNat 4).toNat l1.toNat).toNat 3 (am_w ((am_get ω5 (am_get ω3 (am_get ω3 (am_get ω3 l0.toNat 0).toNat 4).toNat l1.toNat).toNat 3) - z5)))) (fun ω6 => some (some (.inl z5), ω6))) else none) else none) else none)) else none) else none) else none) else (if am_is ω4 l0 (6, 10) = true then (am_bi (am_run (128, 0) 0 ([some (.inr (.inr l0)), some (.inl ((-5))), none], [], ω4)) (fun z7 ω7 => some (some (.inl z7), ω7))) else none))) else none) else none) else none) else (if am_is ω3 l0 (6, 10) = true then (am_bi (am_run (128, 0) 0 ([some (.inr (.inr l0)), some (.inl ((-2))), none], [], ω3)) (fun z8 ω8 => some (some (.inl z8), ω8))) else none)))) := by
  refine Eq.trans (rr_aload_n rfl rfl) ?_
  refine Eq.trans (rr_getfr rfl rfl rfl h1) ?_
  refine Eq.trans (rr_iload_n rfl rfl) ?_
  refine Eq.trans (rr_invV0i (S' := []) (L' := [some (.inr (.inr (am_get ω l0.toNat 0))), some (.inl l1)]) (m' := (58, 0)) rfl rfl rfl rfl rfl rfl h2) ?_
  refine bi_cg (fun z1 ω1 => ?_)
  refine Eq.trans (rr_if_eq rfl rfl) (it_cg (fun _ => ?_) (fun _ => ?_))
  · refine Eq.trans (rr_aload_n rfl rfl) ?_
    refine Eq.trans (rr_bipush rfl rfl) ?_
    refine ck_it (fun h => rr_invV0i (S' := []) (L' := [some (.inr (.inr l0)), some (.inl ((-2))), none]) (m' := (128, 0)) rfl rfl rfl rfl rfl rfl h) (fun h => rr_invV0_no (S' := []) (L' := [some (.inr (.inr l0)), some (.inl ((-2))), none]) (m' := (128, 0)) rfl rfl rfl rfl rfl rfl h) (fun h3 => ?_)
    refine bi_cg (fun z2 ω2 => ?_)
    exact rr_ireturn rfl rfl
  · refine Eq.trans (rr_iload_n rfl rfl) ?_
    refine Eq.trans (rr_invS2i (S' := []) (L' := [some (.inl l2)]) (m' := (142, 0)) rfl rfl rfl rfl rfl rfl) ?_
    refine bi_cg (fun z3 ω3 => ?_)
    refine Eq.trans (rr_if_ne rfl rfl) (it_cg (fun _ => ?_) (fun _ => ?_))
    · refine Eq.trans (rr_aload_n rfl rfl) ?_
      refine ck_it (fun h => rr_getfr rfl rfl rfl h) (fun h => rr_getfield_no rfl rfl h) (fun h4 => ?_)
      refine ck_it (fun h => rr_getfr rfl rfl rfl h) (fun h => rr_getfield_no rfl rfl h) (fun h5 => ?_)
      refine Eq.trans (rr_iload_n rfl rfl) ?_
      refine ck_it (fun h => rr_aaload rfl h) (fun h => rr_aaload_no rfl h) (fun h6 => ?_)
      refine Eq.trans (rr_astore_n (L' := [some (.inr (.inr l0)), some (.inl l1), some (.inl l2), some (.inr (.inr (am_get ω3 (am_get ω3 (am_get ω3 l0.toNat 0).toNat 4).toNat l1.toNat))), none]) rfl rfl) ?_
      refine Eq.trans (rr_aload_n rfl rfl) ?_
      refine Eq.trans (rr_getfr rfl rfl rfl h4) ?_
      refine Eq.trans (rr_aload_n rfl rfl) ?_
      refine Eq.trans (rr_iload_n rfl rfl) ?_
      refine Eq.trans (rr_invV0i (S' := []) (L' := [some (.inr (.inr (am_get ω3 l0.toNat 0))), some (.inr (.inr (am_get ω3 (am_get ω3 (am_get ω3 l0.toNat 0).toNat 4).toNat l1.toNat))), some (.inl l2), none]) (m' := (72, 0)) rfl rfl rfl rfl rfl rfl h5) ?_
      refine bi_cg (fun z4 ω4 => ?_)
      refine Eq.trans (rr_if_ne rfl rfl) (it_cg (fun _ => ?_) (fun _ => ?_))
      · refine Eq.trans (rr_aload_n rfl rfl) ?_
        refine ck_it (fun h => rr_getfr rfl rfl rfl h) (fun h => rr_getfield_no rfl rfl h) (fun h7 => ?_)
        refine Eq.trans (rr_aload_n rfl rfl) ?_
        refine Eq.trans (rr_aload_n rfl rfl) ?_
        refine ck_it (fun h => rr_getfi rfl rfl rfl h) (fun h => rr_getfield_no rfl rfl h) (fun h8 => ?_)
        refine Eq.trans (rr_iload_n rfl rfl) ?_
        refine ck_it (fun h => rr_invV0i (S' := []) (L' := [some (.inr (.inr (am_get ω4 l0.toNat 0))), some (.inr (.inr (am_get ω3 (am_get ω3 (am_get ω3 l0.toNat 0).toNat 4).toNat l1.toNat))), some (.inl (am_get ω4 (am_get ω3 (am_get ω3 (am_get ω3 l0.toNat 0).toNat 4).toNat l1.toNat).toNat 1)), some (.inl l2), none]) (m' := (69, 0)) rfl rfl rfl rfl rfl rfl h) (fun h => rr_invV0_no (S' := []) (L' := [some (.inr (.inr (am_get ω4 l0.toNat 0))), some (.inr (.inr (am_get ω3 (am_get ω3 (am_get ω3 l0.toNat 0).toNat 4).toNat l1.toNat))), some (.inl (am_get ω4 (am_get ω3 (am_get ω3 (am_get ω3 l0.toNat 0).toNat 4).toNat l1.toNat).toNat 1)), some (.inl l2), none]) (m' := (69, 0)) rfl rfl rfl rfl rfl rfl h) (fun h9 => ?_)
        refine bi_cg (fun z5 ω5 => ?_)
        refine Eq.trans (rr_istore (L' := [some (.inr (.inr l0)), some (.inl l1), some (.inl l2), some (.inr (.inr (am_get ω3 (am_get ω3 (am_get ω3 l0.toNat 0).toNat 4).toNat l1.toNat))), some (.inl z5)]) rfl rfl) ?_
        refine Eq.trans (rr_aload_n rfl rfl) ?_
        refine Eq.trans (rr_dupr rfl) ?_
        refine ck_it (fun h => rr_getfi rfl rfl rfl h) (fun h => rr_getfield_no rfl rfl h) (fun h10 => ?_)
        refine Eq.trans (rr_iload rfl rfl) ?_
        refine Eq.trans (rr_isub rfl) ?_
        refine Eq.trans (rr_putfieldi rfl rfl rfl h10) ?_
        refine Eq.trans (rr_aload_n rfl rfl) ?_
        refine ck_it (fun h => rr_getfr rfl rfl rfl h) (fun h => rr_getfield_no rfl rfl h) (fun h11 => ?_)
        refine Eq.trans (rr_aload_n rfl rfl) ?_
        refine Eq.trans (rr_iload_n rfl rfl) ?_
        refine ck_it (fun h => rr_invV0v (S' := []) (L' := [some (.inr (.inr (am_get (am_put ω5 (am_get ω3 (am_get ω3 (am_get ω3 l0.toNat 0).toNat 4).toNat l1.toNat).toNat 3 (am_w ((am_get ω5 (am_get ω3 (am_get ω3 (am_get ω3 l0.toNat 0).toNat 4).toNat l1.toNat).toNat 3) - z5))) l0.toNat 0))), some (.inr (.inr (am_get ω3 (am_get ω3 (am_get ω3 l0.toNat 0).toNat 4).toNat l1.toNat))), some (.inl l2), none]) (m' := (73, 0)) rfl rfl rfl rfl rfl rfl h) (fun h => rr_invV0_no (S' := []) (L' := [some (.inr (.inr (am_get (am_put ω5 (am_get ω3 (am_get ω3 (am_get ω3 l0.toNat 0).toNat 4).toNat l1.toNat).toNat 3 (am_w ((am_get ω5 (am_get ω3 (am_get ω3 (am_get ω3 l0.toNat 0).toNat 4).toNat l1.toNat).toNat 3) - z5))) l0.toNat 0))), some (.inr (.inr (am_get ω3 (am_get ω3 (am_get ω3 l0.toNat 0).toNat 4).toNat l1.toNat))), some (.inl l2), none]) (m' := (73, 0)) rfl rfl rfl rfl rfl rfl h) (fun h12 => ?_)
        refine bv_cg (fun ω6 => ?_)
        refine Eq.trans (rr_iload rfl rfl) ?_
        exact rr_ireturn rfl rfl
      · refine Eq.trans (rr_aload_n rfl rfl) ?_
        refine Eq.trans (rr_bipush rfl rfl) ?_
        refine ck_it (fun h => rr_invV0i (S' := []) (L' := [some (.inr (.inr l0)), some (.inl ((-5))), none]) (m' := (128, 0)) rfl rfl rfl rfl rfl rfl h) (fun h => rr_invV0_no (S' := []) (L' := [some (.inr (.inr l0)), some (.inl ((-5))), none]) (m' := (128, 0)) rfl rfl rfl rfl rfl rfl h) (fun h13 => ?_)
        refine bi_cg (fun z7 ω7 => ?_)
        exact rr_ireturn rfl rfl
    · refine Eq.trans (rr_aload_n rfl rfl) ?_
      refine Eq.trans (rr_bipush rfl rfl) ?_
      refine ck_it (fun h => rr_invV0i (S' := []) (L' := [some (.inr (.inr l0)), some (.inl ((-2))), none]) (m' := (128, 0)) rfl rfl rfl rfl rfl rfl h) (fun h => rr_invV0_no (S' := []) (L' := [some (.inr (.inr l0)), some (.inl ((-2))), none]) (m' := (128, 0)) rfl rfl rfl rfl rfl rfl h) (fun h14 => ?_)
      refine bi_cg (fun z8 ω8 => ?_)
      exact rr_ireturn rfl rfl
theorem pX6_hand_0 (l0 l1 l2 l3 : Int) (ω : am_W) (h1 : am_is ω l0 (6, 10) = true) (h2 : am_is ω (am_get ω l0.toNat 0) (5, 8) = true) : am_run (121, 0) 0 ([some (.inr (.inr l0)), some (.inl l1), some (.inl l2), some (.inl l3), none, none, none], [], ω) = am_bi (am_run (59, 0) 0 ([some (.inr (.inr (am_get ω l0.toNat 0))), some (.inl l1), some (.inl l2)], [], ω)) (fun z1 ω1 => if z1 = 0 then (if am_is ω1 l0 (6, 10) = true then (am_bi (am_run (128, 0) 0 ([some (.inr (.inr l0)), some (.inl ((-2))), none], [], ω1)) (fun z2 ω2 => some (some (.inl z2), ω2))) else none) else (if l3 < 1 then (if am_is ω1 l0 (6, 10) = true then (am_bi (am_run (128, 0) 0 ([some (.inr (.inr l0)), some (.inl ((-2))), none], [], ω1)) (fun z3 ω3 => some (some (.inl z3), ω3))) else none) else (if l3 ≤ 99 then (if am_is ω1 l0 (6, 10) = true then (if am_is ω1 (am_get ω1 l0.toNat 0) (5, 8) = true then (if am_ina ω1 (am_get ω1 (am_get ω1 l0.toNat 0).toNat 4) l1 = true then (if am_ina ω1 (am_get ω1 (am_get ω1 l0.toNat 0).toNat 4) l2 = true then (if am_is ω1 (am_get ω1 (am_get ω1 (am_get ω1 l0.toNat 0).toNat 4).toNat l1.toNat) (4, 5) = true then (if ¬ (am_get ω1 (am_get ω1 (am_get ω1 (am_get ω1 l0.toNat 0).toNat 4).toNat l1.toNat).toNat 0) = 5 then (am_run (121, 0) 75 ([some (.inr (.inr l0)), some (.inl l1), some (.inl l2), some (.inl l3), some (.inr (.inr (am_get ω1 (am_get ω1 (am_get ω1 l0.toNat 0).toNat 4).toNat l1.toNat))), some (.inr (.inr (am_get ω1 (am_get ω1 (am_get ω1 l0.toNat 0).toNat 4).toNat l2.toNat))), none], [], ω1)) else (am_bi (am_run (48, 0) 0 ([some (.inr (.inr (am_get ω1 (am_get ω1 (am_get ω1 l0.toNat 0).toNat 4).toNat l1.toNat))), some (.inr (.inr (am_get ω1 (am_get ω1 (am_get ω1 l0.toNat 0).toNat 4).toNat l2.toNat)))], [], ω1)) (fun z4 ω4 => if z4 = 0 then (am_run (121, 0) 75 ([some (.inr (.inr l0)), some (.inl l1), some (.inl l2), some (.inl l3), some (.inr (.inr (am_get ω1 (am_get ω1 (am_get ω1 l0.toNat 0).toNat 4).toNat l1.toNat))), some (.inr (.inr (am_get ω1 (am_get ω1 (am_get ω1 l0.toNat 0).toNat 4).toNat l2.toNat))), none], [], ω4)) else (am_run (121, 0) 76 ([some (.inr (.inr l0)), some (.inl l1), some (.inl l2), some (.inl l3), some (.inr (.inr (am_get ω1 (am_get ω1 (am_get ω1 l0.toNat 0).toNat 4).toNat l1.toNat))), some (.inr (.inr (am_get ω1 (am_get ω1 (am_get ω1 l0.toNat 0).toNat 4).toNat l2.toNat))), none], [.inl 1], ω4))))) else none) else none) else none) else none) else none) else (if am_is ω1 l0 (6, 10) = true then (am_bi (am_run (128, 0) 0 ([some (.inr (.inr l0)), some (.inl ((-2))), none], [], ω1)) (fun z5 ω5 => some (some (.inl z5), ω5))) else none)))) := by
  refine Eq.trans (rr_aload_n rfl rfl) ?_
  refine Eq.trans (rr_getfr rfl rfl rfl h1) ?_
  refine Eq.trans (rr_iload_n rfl rfl) ?_
  refine Eq.trans (rr_iload_n rfl rfl) ?_
  refine Eq.trans (rr_invV0i (S' := []) (L' := [some (.inr (.inr (am_get ω l0.toNat 0))), some (.inl l1), some (.inl l2)]) (m' := (59, 0)) rfl rfl rfl rfl rfl rfl h2) ?_
  refine bi_cg (fun z1 ω1 => ?_)
  refine Eq.trans (rr_if_eq rfl rfl) (it_cg (fun _ => ?_) (fun _ => ?_))
  · refine Eq.trans (rr_aload_n rfl rfl) ?_
    refine Eq.trans (rr_bipush rfl rfl) ?_
    refine ck_it (fun h => rr_invV0i (S' := []) (L' := [some (.inr (.inr l0)), some (.inl ((-2))), none]) (m' := (128, 0)) rfl rfl rfl rfl rfl rfl h) (fun h => rr_invV0_no (S' := []) (L' := [some (.inr (.inr l0)), some (.inl ((-2))), none]) (m' := (128, 0)) rfl rfl rfl rfl rfl rfl h) (fun h3 => ?_)
    refine bi_cg (fun z2 ω2 => ?_)
    exact rr_ireturn rfl rfl
  · refine Eq.trans (rr_iload_n rfl rfl) ?_
    refine Eq.trans (rr_iconst rfl rfl) ?_
    refine Eq.trans (rr_icmp_lt rfl rfl) (it_cg (fun _ => ?_) (fun _ => ?_))
    · refine Eq.trans (rr_aload_n rfl rfl) ?_
      refine Eq.trans (rr_bipush rfl rfl) ?_
      refine ck_it (fun h => rr_invV0i (S' := []) (L' := [some (.inr (.inr l0)), some (.inl ((-2))), none]) (m' := (128, 0)) rfl rfl rfl rfl rfl rfl h) (fun h => rr_invV0_no (S' := []) (L' := [some (.inr (.inr l0)), some (.inl ((-2))), none]) (m' := (128, 0)) rfl rfl rfl rfl rfl rfl h) (fun h4 => ?_)
      refine bi_cg (fun z3 ω3 => ?_)
      exact rr_ireturn rfl rfl
    · refine Eq.trans (rr_iload_n rfl rfl) ?_
      refine Eq.trans (rr_bipush rfl rfl) ?_
      refine Eq.trans (rr_icmp_le rfl rfl) (it_cg (fun _ => ?_) (fun _ => ?_))
      · refine Eq.trans (rr_aload_n rfl rfl) ?_
        refine ck_it (fun h => rr_getfr rfl rfl rfl h) (fun h => rr_getfield_no rfl rfl h) (fun h5 => ?_)
        refine ck_it (fun h => rr_getfr rfl rfl rfl h) (fun h => rr_getfield_no rfl rfl h) (fun h6 => ?_)
        refine Eq.trans (rr_iload_n rfl rfl) ?_
        refine ck_it (fun h => rr_aaload rfl h) (fun h => rr_aaload_no rfl h) (fun h7 => ?_)
        refine Eq.trans (rr_astore (L' := [some (.inr (.inr l0)), some (.inl l1), some (.inl l2), some (.inl l3), some (.inr (.inr (am_get ω1 (am_get ω1 (am_get ω1 l0.toNat 0).toNat 4).toNat l1.toNat))), none, none]) rfl rfl) ?_
        refine Eq.trans (rr_aload_n rfl rfl) ?_
        refine Eq.trans (rr_getfr rfl rfl rfl h5) ?_
        refine Eq.trans (rr_getfr rfl rfl rfl h6) ?_
        refine Eq.trans (rr_iload_n rfl rfl) ?_
        refine ck_it (fun h => rr_aaload rfl h) (fun h => rr_aaload_no rfl h) (fun h8 => ?_)
        refine Eq.trans (rr_astore (L' := [some (.inr (.inr l0)), some (.inl l1), some (.inl l2), some (.inl l3), some (.inr (.inr (am_get ω1 (am_get ω1 (am_get ω1 l0.toNat 0).toNat 4).toNat l1.toNat))), some (.inr (.inr (am_get ω1 (am_get ω1 (am_get ω1 l0.toNat 0).toNat 4).toNat l2.toNat))), none]) rfl rfl) ?_
        refine Eq.trans (rr_aload rfl rfl) ?_
        refine ck_it (fun h => rr_getfi rfl rfl rfl h) (fun h => rr_getfield_no rfl rfl h) (fun h9 => ?_)
        refine Eq.trans (rr_iconst rfl rfl) ?_
        refine Eq.trans (rr_icmp_ne rfl rfl) (it_cg (fun _ => ?_) (fun _ => ?_))
        · rfl
        · refine Eq.trans (rr_aload rfl rfl) ?_
          refine Eq.trans (rr_aload rfl rfl) ?_
          refine Eq.trans (rr_invV0i (S' := []) (L' := [some (.inr (.inr (am_get ω1 (am_get ω1 (am_get ω1 l0.toNat 0).toNat 4).toNat l1.toNat))), some (.inr (.inr (am_get ω1 (am_get ω1 (am_get ω1 l0.toNat 0).toNat 4).toNat l2.toNat)))]) (m' := (48, 0)) rfl rfl rfl rfl rfl rfl h9) ?_
          refine bi_cg (fun z4 ω4 => ?_)
          refine Eq.trans (rr_if_eq rfl rfl) (it_cg (fun _ => ?_) (fun _ => ?_))
          · rfl
          · refine Eq.trans (rr_iconst rfl rfl) ?_
            refine Eq.trans (rr_goto rfl rfl) ?_
            rfl
      · refine Eq.trans (rr_aload_n rfl rfl) ?_
        refine Eq.trans (rr_bipush rfl rfl) ?_
        refine ck_it (fun h => rr_invV0i (S' := []) (L' := [some (.inr (.inr l0)), some (.inl ((-2))), none]) (m' := (128, 0)) rfl rfl rfl rfl rfl rfl h) (fun h => rr_invV0_no (S' := []) (L' := [some (.inr (.inr l0)), some (.inl ((-2))), none]) (m' := (128, 0)) rfl rfl rfl rfl rfl rfl h) (fun h10 => ?_)
        refine bi_cg (fun z5 ω5 => ?_)
        exact rr_ireturn rfl rfl
theorem pX6_hand_75 (l0 l1 l2 l3 l4 l5 : Int) (o6 : Option am_V) (ω : am_W) : am_run (121, 0) 75 ([some (.inr (.inr l0)), some (.inl l1), some (.inl l2), some (.inl l3), some (.inr (.inr l4)), some (.inr (.inr l5)), o6], [], ω) = am_run (121, 0) 76 ([some (.inr (.inr l0)), some (.inl l1), some (.inl l2), some (.inl l3), some (.inr (.inr l4)), some (.inr (.inr l5)), o6], [.inl 0], ω) := by
  refine Eq.trans (rr_iconst rfl rfl) ?_
  rfl
theorem pX6_hand_76 (l0 l1 l2 l3 l4 l5 s0 : Int) (o6 : Option am_V) (ω : am_W) (h1 : am_is ω l0 (6, 10) = true) (h2 : am_is ω l4 (4, 5) = true) (h3 : am_is ω l5 (4, 5) = true) : am_run (121, 0) 76 ([some (.inr (.inr l0)), some (.inl l1), some (.inl l2), some (.inl l3), some (.inr (.inr l4)), some (.inr (.inr l5)), o6], [.inl s0], ω) = if s0 = 0 then (am_bi (am_run (128, 0) 0 ([some (.inr (.inr l0)), some (.inl ((-5))), none], [], ω)) (fun z1 ω1 => some (some (.inl z1), ω1))) else (if (am_get ω l4.toNat 3) < l3 then (am_bi (am_run (128, 0) 0 ([some (.inr (.inr l0)), some (.inl ((-5))), none], [], ω)) (fun z2 ω2 => some (some (.inl z2), ω2))) else (if (am_w ((am_get ω l5.toNat 3) + l3)) ≤ 99 then (some (some (.inl (am_get (am_put (am_put ω l4.toNat 3 (am_w ((am_get ω l4.toNat 3) - l3))) l5.toNat 3 (am_w ((am_get (am_put ω l4.toNat 3 (am_w ((am_get ω l4.toNat 3) - l3))) l5.toNat 3) + l3))) l5.toNat 3)), am_put (am_put ω l4.toNat 3 (am_w ((am_get ω l4.toNat 3) - l3))) l5.toNat 3 (am_w ((am_get (am_put ω l4.toNat 3 (am_w ((am_get ω l4.toNat 3) - l3))) l5.toNat 3) + l3)))) else (am_bi (am_run (128, 0) 0 ([some (.inr (.inr l0)), some (.inl ((-5))), none], [], ω)) (fun z3 ω3 => some (some (.inl z3), ω3))))) := by
  refine Eq.trans (rr_istore (L' := [some (.inr (.inr l0)), some (.inl l1), some (.inl l2), some (.inl l3), some (.inr (.inr l4)), some (.inr (.inr l5)), some (.inl s0)]) rfl rfl) ?_
  refine Eq.trans (rr_iload rfl rfl) ?_
  refine Eq.trans (rr_if_eq rfl rfl) (it_cg (fun _ => ?_) (fun _ => ?_))
  · refine Eq.trans (rr_aload_n rfl rfl) ?_
    refine Eq.trans (rr_bipush rfl rfl) ?_
    refine Eq.trans (rr_invV0i (S' := []) (L' := [some (.inr (.inr l0)), some (.inl ((-5))), none]) (m' := (128, 0)) rfl rfl rfl rfl rfl rfl h1) ?_
    refine bi_cg (fun z1 ω1 => ?_)
    exact rr_ireturn rfl rfl
  · refine Eq.trans (rr_aload rfl rfl) ?_
    refine Eq.trans (rr_getfi rfl rfl rfl h2) ?_
    refine Eq.trans (rr_iload_n rfl rfl) ?_
    refine Eq.trans (rr_icmp_lt rfl rfl) (it_cg (fun _ => ?_) (fun _ => ?_))
    · refine Eq.trans (rr_aload_n rfl rfl) ?_
      refine Eq.trans (rr_bipush rfl rfl) ?_
      refine Eq.trans (rr_invV0i (S' := []) (L' := [some (.inr (.inr l0)), some (.inl ((-5))), none]) (m' := (128, 0)) rfl rfl rfl rfl rfl rfl h1) ?_
      refine bi_cg (fun z2 ω2 => ?_)
      exact rr_ireturn rfl rfl
    · refine Eq.trans (rr_aload rfl rfl) ?_
      refine Eq.trans (rr_getfi rfl rfl rfl h3) ?_
      refine Eq.trans (rr_iload_n rfl rfl) ?_
      refine Eq.trans (rr_iadd rfl) ?_
      refine Eq.trans (rr_bipush rfl rfl) ?_
      refine Eq.trans (rr_icmp_le rfl rfl) (it_cg (fun _ => ?_) (fun _ => ?_))
      · refine Eq.trans (rr_aload rfl rfl) ?_
        refine Eq.trans (rr_dupr rfl) ?_
        refine Eq.trans (rr_getfi rfl rfl rfl h2) ?_
        refine Eq.trans (rr_iload_n rfl rfl) ?_
        refine Eq.trans (rr_isub rfl) ?_
        refine Eq.trans (rr_putfieldi rfl rfl rfl h2) ?_
        refine Eq.trans (rr_aload rfl rfl) ?_
        refine Eq.trans (rr_dupr rfl) ?_
        refine Eq.trans (rr_getfi rfl rfl rfl h3) ?_
        refine Eq.trans (rr_iload_n rfl rfl) ?_
        refine Eq.trans (rr_iadd rfl) ?_
        refine Eq.trans (rr_putfieldi rfl rfl rfl h3) ?_
        refine Eq.trans (rr_aload rfl rfl) ?_
        refine Eq.trans (rr_getfi rfl rfl rfl h3) ?_
        exact rr_ireturn rfl rfl
      · refine Eq.trans (rr_aload_n rfl rfl) ?_
        refine Eq.trans (rr_bipush rfl rfl) ?_
        refine Eq.trans (rr_invV0i (S' := []) (L' := [some (.inr (.inr l0)), some (.inl ((-5))), none]) (m' := (128, 0)) rfl rfl rfl rfl rfl rfl h1) ?_
        refine bi_cg (fun z3 ω3 => ?_)
        exact rr_ireturn rfl rfl
theorem pX6_hurl_0 (l0 l1 l2 l3 : Int) (ω : am_W) (h1 : am_is ω l0 (6, 10) = true) (h2 : am_is ω (am_get ω l0.toNat 0) (5, 8) = true) : am_run (122, 0) 0 ([some (.inr (.inr l0)), some (.inl l1), some (.inl l2), some (.inl l3), none, none, none], [], ω) = am_bi (am_run (59, 0) 0 ([some (.inr (.inr (am_get ω l0.toNat 0))), some (.inl l1), some (.inl l2)], [], ω)) (fun z1 ω1 => if z1 = 0 then (if am_is ω1 l0 (6, 10) = true then (am_bi (am_run (128, 0) 0 ([some (.inr (.inr l0)), some (.inl ((-2))), none], [], ω1)) (fun z2 ω2 => some (some (.inl z2), ω2))) else none) else (am_bi (am_run (142, 0) 0 ([some (.inl l3)], [], ω1)) (fun z3 ω3 => if ¬ z3 = 0 then (if am_is ω3 l0 (6, 10) = true then (if am_is ω3 (am_get ω3 l0.toNat 0) (5, 8) = true then (if am_ina ω3 (am_get ω3 (am_get ω3 l0.toNat 0).toNat 4) l1 = true then (if am_ina ω3 (am_get ω3 (am_get ω3 l0.toNat 0).toNat 4) l2 = true then (if am_is ω3 (am_get ω3 (am_get ω3 (am_get ω3 l0.toNat 0).toNat 4).toNat l2.toNat) (4, 5) = true then (am_bi (am_run (49, 0) 0 ([some (.inr (.inr (am_get ω3 (am_get ω3 (am_get ω3 l0.toNat 0).toNat 4).toNat l2.toNat))), some (.inl 2)], [], ω3)) (fun z4 ω4 => if z4 = 0 then (am_run (122, 0) 80 ([some (.inr (.inr l0)), some (.inl l1), some (.inl l2), some (.inl l3), some (.inr (.inr (am_get ω3 (am_get ω3 (am_get ω3 l0.toNat 0).toNat 4).toNat l1.toNat))), some (.inr (.inr (am_get ω3 (am_get ω3 (am_get ω3 l0.toNat 0).toNat 4).toNat l2.toNat))), none], [], ω4)) else (if am_is ω4 (am_get ω3 (am_get ω3 (am_get ω3 l0.toNat 0).toNat 4).toNat l1.toNat) (4, 5) = true then (am_bi (am_run (49, 0) 0 ([some (.inr (.inr (am_get ω3 (am_get ω3 (am_get ω3 l0.toNat 0).toNat 4).toNat l1.toNat))), some (.inl 2)], [], ω4)) (fun z5 ω5 => if ¬ z5 = 0 then (am_run (122, 0) 80 ([some (.inr (.inr l0)), some (.inl l1), some (.inl l2), some (.inl l3), some (.inr (.inr (am_get ω3 (am_get ω3 (am_get ω3 l0.toNat 0).toNat 4).toNat l1.toNat))), some (.inr (.inr (am_get ω3 (am_get ω3 (am_get ω3 l0.toNat 0).toNat 4).toNat l2.toNat))), none], [], ω5)) else (if am_is ω5 (am_get ω3 (am_get ω3 (am_get ω3 l0.toNat 0).toNat 4).toNat l1.toNat) (4, 5) = true then (am_bi (am_run (48, 0) 0 ([some (.inr (.inr (am_get ω3 (am_get ω3 (am_get ω3 l0.toNat 0).toNat 4).toNat l1.toNat))), some (.inr (.inr (am_get ω3 (am_get ω3 (am_get ω3 l0.toNat 0).toNat 4).toNat l2.toNat)))], [], ω5)) (fun z6 ω6 => if z6 = 0 then (am_run (122, 0) 80 ([some (.inr (.inr l0)), some (.inl l1), some (.inl l2), some (.inl l3), some (.inr (.inr (am_get ω3 (am_get ω3 (am_get ω3 l0.toNat 0).toNat 4).toNat l1.toNat))), some (.inr (.inr (am_get ω3 (am_get ω3 (am_get ω3 l0.toNat 0).toNat 4).toNat l2.toNat))), none], [], ω6)) else (am_run (122, 0) 81 ([some (.inr (.inr l0)), some (.inl l1), some (.inl l2), some (.inl l3), some (.inr (.inr (am_get ω3 (am_get ω3 (am_get ω3 l0.toNat 0).toNat 4).toNat l1.toNat))), some (.inr (.inr (am_get ω3 (am_get ω3 (am_get ω3 l0.toNat 0).toNat 4).toNat l2.toNat))), none], [.inl 1], ω6)))) else none))) else none))) else none) else none) else none) else none) else none) else (if am_is ω3 l0 (6, 10) = true then (am_bi (am_run (128, 0) 0 ([some (.inr (.inr l0)), some (.inl ((-2))), none], [], ω3)) (fun z7 ω7 => some (some (.inl z7), ω7))) else none)))) := by
  refine Eq.trans (rr_aload_n rfl rfl) ?_
  refine Eq.trans (rr_getfr rfl rfl rfl h1) ?_
  refine Eq.trans (rr_iload_n rfl rfl) ?_
  refine Eq.trans (rr_iload_n rfl rfl) ?_
  refine Eq.trans (rr_invV0i (S' := []) (L' := [some (.inr (.inr (am_get ω l0.toNat 0))), some (.inl l1), some (.inl l2)]) (m' := (59, 0)) rfl rfl rfl rfl rfl rfl h2) ?_
  refine bi_cg (fun z1 ω1 => ?_)
  refine Eq.trans (rr_if_eq rfl rfl) (it_cg (fun _ => ?_) (fun _ => ?_))
  · refine Eq.trans (rr_aload_n rfl rfl) ?_
    refine Eq.trans (rr_bipush rfl rfl) ?_
    refine ck_it (fun h => rr_invV0i (S' := []) (L' := [some (.inr (.inr l0)), some (.inl ((-2))), none]) (m' := (128, 0)) rfl rfl rfl rfl rfl rfl h) (fun h => rr_invV0_no (S' := []) (L' := [some (.inr (.inr l0)), some (.inl ((-2))), none]) (m' := (128, 0)) rfl rfl rfl rfl rfl rfl h) (fun h3 => ?_)
    refine bi_cg (fun z2 ω2 => ?_)
    exact rr_ireturn rfl rfl
  · refine Eq.trans (rr_iload_n rfl rfl) ?_
    refine Eq.trans (rr_invS2i (S' := []) (L' := [some (.inl l3)]) (m' := (142, 0)) rfl rfl rfl rfl rfl rfl) ?_
    refine bi_cg (fun z3 ω3 => ?_)
    refine Eq.trans (rr_if_ne rfl rfl) (it_cg (fun _ => ?_) (fun _ => ?_))
    · refine Eq.trans (rr_aload_n rfl rfl) ?_
      refine ck_it (fun h => rr_getfr rfl rfl rfl h) (fun h => rr_getfield_no rfl rfl h) (fun h4 => ?_)
      refine ck_it (fun h => rr_getfr rfl rfl rfl h) (fun h => rr_getfield_no rfl rfl h) (fun h5 => ?_)
      refine Eq.trans (rr_iload_n rfl rfl) ?_
      refine ck_it (fun h => rr_aaload rfl h) (fun h => rr_aaload_no rfl h) (fun h6 => ?_)
      refine Eq.trans (rr_astore (L' := [some (.inr (.inr l0)), some (.inl l1), some (.inl l2), some (.inl l3), some (.inr (.inr (am_get ω3 (am_get ω3 (am_get ω3 l0.toNat 0).toNat 4).toNat l1.toNat))), none, none]) rfl rfl) ?_
      refine Eq.trans (rr_aload_n rfl rfl) ?_
      refine Eq.trans (rr_getfr rfl rfl rfl h4) ?_
      refine Eq.trans (rr_getfr rfl rfl rfl h5) ?_
      refine Eq.trans (rr_iload_n rfl rfl) ?_
      refine ck_it (fun h => rr_aaload rfl h) (fun h => rr_aaload_no rfl h) (fun h7 => ?_)
      refine Eq.trans (rr_astore (L' := [some (.inr (.inr l0)), some (.inl l1), some (.inl l2), some (.inl l3), some (.inr (.inr (am_get ω3 (am_get ω3 (am_get ω3 l0.toNat 0).toNat 4).toNat l1.toNat))), some (.inr (.inr (am_get ω3 (am_get ω3 (am_get ω3 l0.toNat 0).toNat 4).toNat l2.toNat))), none]) rfl rfl) ?_
      refine Eq.trans (rr_aload rfl rfl) ?_
      refine Eq.trans (rr_iconst rfl rfl) ?_
      refine ck_it (fun h => rr_invV0i (S' := []) (L' := [some (.inr (.inr (am_get ω3 (am_get ω3 (am_get ω3 l0.toNat 0).toNat 4).toNat l2.toNat))), some (.inl 2)]) (m' := (49, 0)) rfl rfl rfl rfl rfl rfl h) (fun h => rr_invV0_no (S' := []) (L' := [some (.inr (.inr (am_get ω3 (am_get ω3 (am_get ω3 l0.toNat 0).toNat 4).toNat l2.toNat))), some (.inl 2)]) (m' := (49, 0)) rfl rfl rfl rfl rfl rfl h) (fun h8 => ?_)
      refine bi_cg (fun z4 ω4 => ?_)
      refine Eq.trans (rr_if_eq rfl rfl) (it_cg (fun _ => ?_) (fun _ => ?_))
      · rfl
      · refine Eq.trans (rr_aload rfl rfl) ?_
        refine Eq.trans (rr_iconst rfl rfl) ?_
        refine ck_it (fun h => rr_invV0i (S' := []) (L' := [some (.inr (.inr (am_get ω3 (am_get ω3 (am_get ω3 l0.toNat 0).toNat 4).toNat l1.toNat))), some (.inl 2)]) (m' := (49, 0)) rfl rfl rfl rfl rfl rfl h) (fun h => rr_invV0_no (S' := []) (L' := [some (.inr (.inr (am_get ω3 (am_get ω3 (am_get ω3 l0.toNat 0).toNat 4).toNat l1.toNat))), some (.inl 2)]) (m' := (49, 0)) rfl rfl rfl rfl rfl rfl h) (fun h9 => ?_)
        refine bi_cg (fun z5 ω5 => ?_)
        refine Eq.trans (rr_if_ne rfl rfl) (it_cg (fun _ => ?_) (fun _ => ?_))
        · rfl
        · refine Eq.trans (rr_aload rfl rfl) ?_
          refine Eq.trans (rr_aload rfl rfl) ?_
          refine ck_it (fun h => rr_invV0i (S' := []) (L' := [some (.inr (.inr (am_get ω3 (am_get ω3 (am_get ω3 l0.toNat 0).toNat 4).toNat l1.toNat))), some (.inr (.inr (am_get ω3 (am_get ω3 (am_get ω3 l0.toNat 0).toNat 4).toNat l2.toNat)))]) (m' := (48, 0)) rfl rfl rfl rfl rfl rfl h) (fun h => rr_invV0_no (S' := []) (L' := [some (.inr (.inr (am_get ω3 (am_get ω3 (am_get ω3 l0.toNat 0).toNat 4).toNat l1.toNat))), some (.inr (.inr (am_get ω3 (am_get ω3 (am_get ω3 l0.toNat 0).toNat 4).toNat l2.toNat)))]) (m' := (48, 0)) rfl rfl rfl rfl rfl rfl h) (fun h10 => ?_)
          refine bi_cg (fun z6 ω6 => ?_)
          refine Eq.trans (rr_if_eq rfl rfl) (it_cg (fun _ => ?_) (fun _ => ?_))
          · rfl
          · refine Eq.trans (rr_iconst rfl rfl) ?_
            refine Eq.trans (rr_goto rfl rfl) ?_
            rfl
    · refine Eq.trans (rr_aload_n rfl rfl) ?_
      refine Eq.trans (rr_bipush rfl rfl) ?_
      refine ck_it (fun h => rr_invV0i (S' := []) (L' := [some (.inr (.inr l0)), some (.inl ((-2))), none]) (m' := (128, 0)) rfl rfl rfl rfl rfl rfl h) (fun h => rr_invV0_no (S' := []) (L' := [some (.inr (.inr l0)), some (.inl ((-2))), none]) (m' := (128, 0)) rfl rfl rfl rfl rfl rfl h) (fun h11 => ?_)
      refine bi_cg (fun z7 ω7 => ?_)
      exact rr_ireturn rfl rfl
theorem pX6_hurl_80 (l0 l1 l2 l3 l4 l5 : Int) (o6 : Option am_V) (ω : am_W) : am_run (122, 0) 80 ([some (.inr (.inr l0)), some (.inl l1), some (.inl l2), some (.inl l3), some (.inr (.inr l4)), some (.inr (.inr l5)), o6], [], ω) = am_run (122, 0) 81 ([some (.inr (.inr l0)), some (.inl l1), some (.inl l2), some (.inl l3), some (.inr (.inr l4)), some (.inr (.inr l5)), o6], [.inl 0], ω) := by
  refine Eq.trans (rr_iconst rfl rfl) ?_
  rfl
theorem pX6_hurl_81 (l0 l1 l2 l3 l4 l5 s0 : Int) (o6 : Option am_V) (ω : am_W) (h1 : am_is ω l0 (6, 10) = true) (h2 : am_is ω l4 (4, 5) = true) (h3 : am_is ω l5 (4, 5) = true) (h4 : am_is ω (am_get ω l0.toNat 0) (5, 8) = true) : am_run (122, 0) 81 ([some (.inr (.inr l0)), some (.inl l1), some (.inl l2), some (.inl l3), some (.inr (.inr l4)), some (.inr (.inr l5)), o6], [.inl s0], ω) = if s0 = 0 then (am_bi (am_run (128, 0) 0 ([some (.inr (.inr l0)), some (.inl ((-5))), none], [], ω)) (fun z1 ω1 => some (some (.inl z1), ω1))) else (if (am_get ω l4.toNat 3) < 1 then (am_bi (am_run (128, 0) 0 ([some (.inr (.inr l0)), some (.inl ((-5))), none], [], ω)) (fun z2 ω2 => some (some (.inl z2), ω2))) else (am_bi (am_run (56, 0) 0 ([some (.inr (.inr (am_get ω l0.toNat 0))), some (.inl (am_get ω l5.toNat 1)), some (.inl l3)], [], ω)) (fun z3 ω3 => if ¬ z3 = 0 then (if am_is ω3 l4 (4, 5) = true then (if am_is (am_put ω3 l4.toNat 3 (am_w ((am_get ω3 l4.toNat 3) - 1))) l0 (6, 10) = true then (if am_is (am_put ω3 l4.toNat 3 (am_w ((am_get ω3 l4.toNat 3) - 1))) (am_get (am_put ω3 l4.toNat 3 (am_w ((am_get ω3 l4.toNat 3) - 1))) l0.toNat 0) (5, 8) = true then (am_bv (am_run (73, 0) 0 ([some (.inr (.inr (am_get (am_put ω3 l4.toNat 3 (am_w ((am_get ω3 l4.toNat 3) - 1))) l0.toNat 0))), some (.inr (.inr l5)), some (.inl l3), none], [], am_put ω3 l4.toNat 3 (am_w ((am_get ω3 l4.toNat 3) - 1)))) (fun ω4 => if am_is ω4 l5 (4, 5) = true then (some (some (.inl (am_get ω4 l5.toNat 4)), ω4)) else none)) else none) else none) else none) else (if am_is ω3 l0 (6, 10) = true then (am_bi (am_run (128, 0) 0 ([some (.inr (.inr l0)), some (.inl ((-5))), none], [], ω3)) (fun z5 ω5 => some (some (.inl z5), ω5))) else none)))) := by
  refine Eq.trans (rr_istore (L' := [some (.inr (.inr l0)), some (.inl l1), some (.inl l2), some (.inl l3), some (.inr (.inr l4)), some (.inr (.inr l5)), some (.inl s0)]) rfl rfl) ?_
  refine Eq.trans (rr_iload rfl rfl) ?_
  refine Eq.trans (rr_if_eq rfl rfl) (it_cg (fun _ => ?_) (fun _ => ?_))
  · refine Eq.trans (rr_aload_n rfl rfl) ?_
    refine Eq.trans (rr_bipush rfl rfl) ?_
    refine Eq.trans (rr_invV0i (S' := []) (L' := [some (.inr (.inr l0)), some (.inl ((-5))), none]) (m' := (128, 0)) rfl rfl rfl rfl rfl rfl h1) ?_
    refine bi_cg (fun z1 ω1 => ?_)
    exact rr_ireturn rfl rfl
  · refine Eq.trans (rr_aload rfl rfl) ?_
    refine Eq.trans (rr_getfi rfl rfl rfl h2) ?_
    refine Eq.trans (rr_iconst rfl rfl) ?_
    refine Eq.trans (rr_icmp_lt rfl rfl) (it_cg (fun _ => ?_) (fun _ => ?_))
    · refine Eq.trans (rr_aload_n rfl rfl) ?_
      refine Eq.trans (rr_bipush rfl rfl) ?_
      refine Eq.trans (rr_invV0i (S' := []) (L' := [some (.inr (.inr l0)), some (.inl ((-5))), none]) (m' := (128, 0)) rfl rfl rfl rfl rfl rfl h1) ?_
      refine bi_cg (fun z2 ω2 => ?_)
      exact rr_ireturn rfl rfl
    · refine Eq.trans (rr_aload_n rfl rfl) ?_
      refine Eq.trans (rr_getfr rfl rfl rfl h1) ?_
      refine Eq.trans (rr_aload rfl rfl) ?_
      refine Eq.trans (rr_getfi rfl rfl rfl h3) ?_
      refine Eq.trans (rr_iload_n rfl rfl) ?_
      refine Eq.trans (rr_invV0i (S' := []) (L' := [some (.inr (.inr (am_get ω l0.toNat 0))), some (.inl (am_get ω l5.toNat 1)), some (.inl l3)]) (m' := (56, 0)) rfl rfl rfl rfl rfl rfl h4) ?_
      refine bi_cg (fun z3 ω3 => ?_)
      refine Eq.trans (rr_if_ne rfl rfl) (it_cg (fun _ => ?_) (fun _ => ?_))
      · refine Eq.trans (rr_aload rfl rfl) ?_
        refine Eq.trans (rr_dupr rfl) ?_
        refine ck_it (fun h => rr_getfi rfl rfl rfl h) (fun h => rr_getfield_no rfl rfl h) (fun h5 => ?_)
        refine Eq.trans (rr_iconst rfl rfl) ?_
        refine Eq.trans (rr_isub rfl) ?_
        refine Eq.trans (rr_putfieldi rfl rfl rfl h5) ?_
        refine Eq.trans (rr_aload_n rfl rfl) ?_
        refine ck_it (fun h => rr_getfr rfl rfl rfl h) (fun h => rr_getfield_no rfl rfl h) (fun h6 => ?_)
        refine Eq.trans (rr_aload rfl rfl) ?_
        refine Eq.trans (rr_iload_n rfl rfl) ?_
        refine ck_it (fun h => rr_invV0v (S' := []) (L' := [some (.inr (.inr (am_get (am_put ω3 l4.toNat 3 (am_w ((am_get ω3 l4.toNat 3) - 1))) l0.toNat 0))), some (.inr (.inr l5)), some (.inl l3), none]) (m' := (73, 0)) rfl rfl rfl rfl rfl rfl h) (fun h => rr_invV0_no (S' := []) (L' := [some (.inr (.inr (am_get (am_put ω3 l4.toNat 3 (am_w ((am_get ω3 l4.toNat 3) - 1))) l0.toNat 0))), some (.inr (.inr l5)), some (.inl l3), none]) (m' := (73, 0)) rfl rfl rfl rfl rfl rfl h) (fun h7 => ?_)
        refine bv_cg (fun ω4 => ?_)
        refine Eq.trans (rr_aload rfl rfl) ?_
        refine ck_it (fun h => rr_getfi rfl rfl rfl h) (fun h => rr_getfield_no rfl rfl h) (fun h8 => ?_)
        exact rr_ireturn rfl rfl
      · refine Eq.trans (rr_aload_n rfl rfl) ?_
        refine Eq.trans (rr_bipush rfl rfl) ?_
        refine ck_it (fun h => rr_invV0i (S' := []) (L' := [some (.inr (.inr l0)), some (.inl ((-5))), none]) (m' := (128, 0)) rfl rfl rfl rfl rfl rfl h) (fun h => rr_invV0_no (S' := []) (L' := [some (.inr (.inr l0)), some (.inl ((-5))), none]) (m' := (128, 0)) rfl rfl rfl rfl rfl rfl h) (fun h9 => ?_)
        refine bi_cg (fun z5 ω5 => ?_)
        exact rr_ireturn rfl rfl
theorem pX6_bolts_0 (l0 l1 : Int) (ω : am_W) (h1 : am_is ω l0 (6, 10) = true) : am_run (123, 0) 0 ([some (.inr (.inr l0)), some (.inl l1), none, none, none], [], ω) = if l1 < 1 then (am_bi (am_run (128, 0) 0 ([some (.inr (.inr l0)), some (.inl ((-2))), none], [], ω)) (fun z1 ω1 => some (some (.inl z1), ω1))) else (if l1 ≤ 6 then (am_run (123, 0) 20 ([some (.inr (.inr l0)), some (.inl l1), some (.inl 0), none, none], [], ω)) else (am_bi (am_run (128, 0) 0 ([some (.inr (.inr l0)), some (.inl ((-2))), none], [], ω)) (fun z2 ω2 => some (some (.inl z2), ω2)))) := by
  refine Eq.trans (rr_iload_n rfl rfl) ?_
  refine Eq.trans (rr_iconst rfl rfl) ?_
  refine Eq.trans (rr_icmp_lt rfl rfl) (it_cg (fun _ => ?_) (fun _ => ?_))
  · refine Eq.trans (rr_aload_n rfl rfl) ?_
    refine Eq.trans (rr_bipush rfl rfl) ?_
    refine Eq.trans (rr_invV0i (S' := []) (L' := [some (.inr (.inr l0)), some (.inl ((-2))), none]) (m' := (128, 0)) rfl rfl rfl rfl rfl rfl h1) ?_
    refine bi_cg (fun z1 ω1 => ?_)
    exact rr_ireturn rfl rfl
  · refine Eq.trans (rr_iload_n rfl rfl) ?_
    refine Eq.trans (rr_bipush rfl rfl) ?_
    refine Eq.trans (rr_icmp_le rfl rfl) (it_cg (fun _ => ?_) (fun _ => ?_))
    · refine Eq.trans (rr_iconst rfl rfl) ?_
      refine Eq.trans (rr_istore_n (L' := [some (.inr (.inr l0)), some (.inl l1), some (.inl 0), none, none]) rfl rfl) ?_
      rfl
    · refine Eq.trans (rr_aload_n rfl rfl) ?_
      refine Eq.trans (rr_bipush rfl rfl) ?_
      refine Eq.trans (rr_invV0i (S' := []) (L' := [some (.inr (.inr l0)), some (.inl ((-2))), none]) (m' := (128, 0)) rfl rfl rfl rfl rfl rfl h1) ?_
      refine bi_cg (fun z2 ω2 => ?_)
      exact rr_ireturn rfl rfl
theorem pX6_bolts_20 (l0 l1 l2 : Int) (o3 o4 : Option am_V) (ω : am_W) (h1 : am_is ω l0 (6, 10) = true) (h2 : am_is ω (am_get ω l0.toNat 0) (5, 8) = true) : am_run (123, 0) 20 ([some (.inr (.inr l0)), some (.inl l1), some (.inl l2), o3, o4], [], ω) = if l1 ≤ l2 then (some (some (.inl l2), ω)) else (am_bi (am_run (60, 0) 0 ([some (.inr (.inr (am_get ω l0.toNat 0)))], [], ω)) (fun z1 ω1 => if ¬ z1 = 0 then (some (some (.inl l2), ω1)) else (if am_is ω1 l0 (6, 10) = true then (if am_is ω1 (am_get ω1 l0.toNat 0) (5, 8) = true then (am_bi (am_run (82, 0) 0 ([some (.inr (.inr (am_get ω1 l0.toNat 0))), some (.inl (am_get ω1 (am_get ω1 l0.toNat 0).toNat 0))], [], ω1)) (fun z2 ω2 => if am_is ω2 l0 (6, 10) = true then (if am_is ω2 (am_get ω2 l0.toNat 0) (5, 8) = true then (am_bi (am_run (61, 0) 0 ([some (.inr (.inr (am_get ω2 l0.toNat 0))), some (.inl z2)], [], ω2)) (fun z3 ω3 => if am_is ω3 (am_get ω2 l0.toNat 0) (5, 8) = true then (am_bi (am_run (82, 0) 0 ([some (.inr (.inr (am_get ω2 l0.toNat 0))), some (.inl z3)], [], ω3)) (fun z4 ω4 => if am_is ω4 l0 (6, 10) = true then (if am_is ω4 (am_get ω4 l0.toNat 0) (5, 8) = true then (am_bi (am_run (63, 0) 0 ([some (.inr (.inr (am_get ω4 l0.toNat 0))), some (.inl 3), some (.inl z2), some (.inl z4), some (.inl 0), none], [], ω4)) (fun z5 ω5 => am_run (123, 0) 20 ([some (.inr (.inr l0)), some (.inl l1), some (.inl (am_w (l2 + 1))), some (.inl z2), some (.inl z4)], [], ω5))) else none) else none)) else none)) else none) else none)) else none) else none))) := by
  refine Eq.trans (rr_iload_n rfl rfl) ?_
  refine Eq.trans (rr_iload_n rfl rfl) ?_
  refine Eq.trans (rr_icmp_ge rfl rfl) (it_cg (fun _ => ?_) (fun _ => ?_))
  · refine Eq.trans (rr_iload_n rfl rfl) ?_
    exact rr_ireturn rfl rfl
  · refine Eq.trans (rr_aload_n rfl rfl) ?_
    refine Eq.trans (rr_getfr rfl rfl rfl h1) ?_
    refine Eq.trans (rr_invV0i (S' := []) (L' := [some (.inr (.inr (am_get ω l0.toNat 0)))]) (m' := (60, 0)) rfl rfl rfl rfl rfl rfl h2) ?_
    refine bi_cg (fun z1 ω1 => ?_)
    refine Eq.trans (rr_if_ne rfl rfl) (it_cg (fun _ => ?_) (fun _ => ?_))
    · refine Eq.trans (rr_iload_n rfl rfl) ?_
      exact rr_ireturn rfl rfl
    · refine Eq.trans (rr_aload_n rfl rfl) ?_
      refine ck_it (fun h => rr_getfr rfl rfl rfl h) (fun h => rr_getfield_no rfl rfl h) (fun h3 => ?_)
      refine Eq.trans (rr_aload_n rfl rfl) ?_
      refine Eq.trans (rr_getfr rfl rfl rfl h3) ?_
      refine ck_it (fun h => rr_getfi rfl rfl rfl h) (fun h => rr_getfield_no rfl rfl h) (fun h4 => ?_)
      refine Eq.trans (rr_invV0i (S' := []) (L' := [some (.inr (.inr (am_get ω1 l0.toNat 0))), some (.inl (am_get ω1 (am_get ω1 l0.toNat 0).toNat 0))]) (m' := (82, 0)) rfl rfl rfl rfl rfl rfl h4) ?_
      refine bi_cg (fun z2 ω2 => ?_)
      refine Eq.trans (rr_istore_n (L' := [some (.inr (.inr l0)), some (.inl l1), some (.inl l2), some (.inl z2), o4]) rfl rfl) ?_
      refine Eq.trans (rr_aload_n rfl rfl) ?_
      refine ck_it (fun h => rr_getfr rfl rfl rfl h) (fun h => rr_getfield_no rfl rfl h) (fun h5 => ?_)
      refine Eq.trans (rr_aload_n rfl rfl) ?_
      refine Eq.trans (rr_getfr rfl rfl rfl h5) ?_
      refine Eq.trans (rr_iload_n rfl rfl) ?_
      refine ck_it (fun h => rr_invV0i (S' := [.inr (.inr (am_get ω2 l0.toNat 0))]) (L' := [some (.inr (.inr (am_get ω2 l0.toNat 0))), some (.inl z2)]) (m' := (61, 0)) rfl rfl rfl rfl rfl rfl h) (fun h => rr_invV0_no (S' := [.inr (.inr (am_get ω2 l0.toNat 0))]) (L' := [some (.inr (.inr (am_get ω2 l0.toNat 0))), some (.inl z2)]) (m' := (61, 0)) rfl rfl rfl rfl rfl rfl h) (fun h6 => ?_)
      refine bi_cg (fun z3 ω3 => ?_)
      refine ck_it (fun h => rr_invV0i (S' := []) (L' := [some (.inr (.inr (am_get ω2 l0.toNat 0))), some (.inl z3)]) (m' := (82, 0)) rfl rfl rfl rfl rfl rfl h) (fun h => rr_invV0_no (S' := []) (L' := [some (.inr (.inr (am_get ω2 l0.toNat 0))), some (.inl z3)]) (m' := (82, 0)) rfl rfl rfl rfl rfl rfl h) (fun h7 => ?_)
      refine bi_cg (fun z4 ω4 => ?_)
      refine Eq.trans (rr_istore (L' := [some (.inr (.inr l0)), some (.inl l1), some (.inl l2), some (.inl z2), some (.inl z4)]) rfl rfl) ?_
      refine Eq.trans (rr_aload_n rfl rfl) ?_
      refine ck_it (fun h => rr_getfr rfl rfl rfl h) (fun h => rr_getfield_no rfl rfl h) (fun h8 => ?_)
      refine Eq.trans (rr_iconst rfl rfl) ?_
      refine Eq.trans (rr_iload_n rfl rfl) ?_
      refine Eq.trans (rr_iload rfl rfl) ?_
      refine Eq.trans (rr_iconst rfl rfl) ?_
      refine ck_it (fun h => rr_invV0i (S' := []) (L' := [some (.inr (.inr (am_get ω4 l0.toNat 0))), some (.inl 3), some (.inl z2), some (.inl z4), some (.inl 0), none]) (m' := (63, 0)) rfl rfl rfl rfl rfl rfl h) (fun h => rr_invV0_no (S' := []) (L' := [some (.inr (.inr (am_get ω4 l0.toNat 0))), some (.inl 3), some (.inl z2), some (.inl z4), some (.inl 0), none]) (m' := (63, 0)) rfl rfl rfl rfl rfl rfl h) (fun h9 => ?_)
      refine bi_cg (fun z5 ω5 => ?_)
      refine Eq.trans (rr_popi rfl) ?_
      refine Eq.trans (rr_iinc (L' := [some (.inr (.inr l0)), some (.inl l1), some (.inl (am_w (l2 + 1))), some (.inl z2), some (.inl z4)]) rfl rfl rfl) ?_
      refine Eq.trans (rr_goto rfl rfl) ?_
      rfl
theorem pX6_seed_0 (l0 l1 : Int) (ω : am_W) (h1 : am_is ω l0 (6, 10) = true) (h2 : am_is ω (am_get ω l0.toNat 0) (5, 8) = true) : am_run (124, 0) 0 ([some (.inr (.inr l0)), some (.inl l1), none], [], ω) = some (some (.inl (am_get ω (am_get ω l0.toNat 0).toNat 7)), am_put ω (am_get ω l0.toNat 0).toNat 7 l1) := by
  refine Eq.trans (rr_aload_n rfl rfl) ?_
  refine Eq.trans (rr_getfr rfl rfl rfl h1) ?_
  refine Eq.trans (rr_getfi rfl rfl rfl h2) ?_
  refine Eq.trans (rr_istore_n (L' := [some (.inr (.inr l0)), some (.inl l1), some (.inl (am_get ω (am_get ω l0.toNat 0).toNat 7))]) rfl rfl) ?_
  refine Eq.trans (rr_aload_n rfl rfl) ?_
  refine Eq.trans (rr_getfr rfl rfl rfl h1) ?_
  refine Eq.trans (rr_iload_n rfl rfl) ?_
  refine Eq.trans (rr_putfieldi rfl rfl rfl h2) ?_
  refine Eq.trans (rr_iload_n rfl rfl) ?_
  exact rr_ireturn rfl rfl
theorem pX6_image_0 (l0 : Int) (ω : am_W) (h1 : am_is ω l0 (6, 10) = true) (h2 : am_is ω (am_get ω l0.toNat 1) (5, 8) = true) : am_run (125, 0) 0 ([some (.inr (.inr l0))], [], ω) = am_bv (am_run (53, 0) 0 ([some (.inr (.inr (am_get ω l0.toNat 1))), some (.inr (.inr (am_get ω l0.toNat 0))), none], [], ω)) (fun ω1 => if am_is ω1 l0 (6, 10) = true then (some (some (.inl 1), am_put ω1 l0.toNat 2 1)) else none) := by
  refine Eq.trans (rr_aload_n rfl rfl) ?_
  refine Eq.trans (rr_getfr rfl rfl rfl h1) ?_
  refine Eq.trans (rr_aload_n rfl rfl) ?_
  refine Eq.trans (rr_getfr rfl rfl rfl h1) ?_
  refine Eq.trans (rr_invV0v (S' := []) (L' := [some (.inr (.inr (am_get ω l0.toNat 1))), some (.inr (.inr (am_get ω l0.toNat 0))), none]) (m' := (53, 0)) rfl rfl rfl rfl rfl rfl h2) ?_
  refine bv_cg (fun ω1 => ?_)
  refine Eq.trans (rr_aload_n rfl rfl) ?_
  refine Eq.trans (rr_iconst rfl rfl) ?_
  refine ck_it (fun h => rr_putfieldi rfl rfl rfl h) (fun h => rr_putfieldi_no rfl rfl h) (fun h3 => ?_)
  refine Eq.trans (rr_iconst rfl rfl) ?_
  exact rr_ireturn rfl rfl
theorem pX6_back_0 (l0 : Int) (ω : am_W) (h1 : am_is ω l0 (6, 10) = true) (h2 : am_is ω (am_get ω l0.toNat 0) (5, 8) = true) : am_run (126, 0) 0 ([some (.inr (.inr l0)), none], [], ω) = if ¬ (am_get ω l0.toNat 2) = 0 then (am_bv (am_run (53, 0) 0 ([some (.inr (.inr (am_get ω l0.toNat 0))), some (.inr (.inr (am_get ω l0.toNat 1))), none], [], ω)) (fun ω1 => am_run (126, 0) 27 ([some (.inr (.inr l0)), some (.inl 0)], [], ω1))) else (am_bi (am_run (128, 0) 0 ([some (.inr (.inr l0)), some (.inl ((-5))), none], [], ω)) (fun z2 ω2 => some (some (.inl z2), ω2))) := by
  refine Eq.trans (rr_aload_n rfl rfl) ?_
  refine Eq.trans (rr_getfi rfl rfl rfl h1) ?_
  refine Eq.trans (rr_if_ne rfl rfl) (it_cg (fun _ => ?_) (fun _ => ?_))
  · refine Eq.trans (rr_aload_n rfl rfl) ?_
    refine Eq.trans (rr_getfr rfl rfl rfl h1) ?_
    refine Eq.trans (rr_aload_n rfl rfl) ?_
    refine Eq.trans (rr_getfr rfl rfl rfl h1) ?_
    refine Eq.trans (rr_invV0v (S' := []) (L' := [some (.inr (.inr (am_get ω l0.toNat 0))), some (.inr (.inr (am_get ω l0.toNat 1))), none]) (m' := (53, 0)) rfl rfl rfl rfl rfl rfl h2) ?_
    refine bv_cg (fun ω1 => ?_)
    refine Eq.trans (rr_iconst rfl rfl) ?_
    refine Eq.trans (rr_istore_n (L' := [some (.inr (.inr l0)), some (.inl 0)]) rfl rfl) ?_
    rfl
  · refine Eq.trans (rr_aload_n rfl rfl) ?_
    refine Eq.trans (rr_bipush rfl rfl) ?_
    refine Eq.trans (rr_invV0i (S' := []) (L' := [some (.inr (.inr l0)), some (.inl ((-5))), none]) (m' := (128, 0)) rfl rfl rfl rfl rfl rfl h1) ?_
    refine bi_cg (fun z2 ω2 => ?_)
    exact rr_ireturn rfl rfl
theorem pX6_back_27 (l0 l1 : Int) (ω : am_W) (h1 : am_is ω l0 (6, 10) = true) : am_run (126, 0) 27 ([some (.inr (.inr l0)), some (.inl l1)], [], ω) = if 8 ≤ l1 then (some (some (.inl 1), ω)) else (if am_ina ω (am_get ω l0.toNat 4) l1 = true then (if am_is ω (am_get ω (am_get ω l0.toNat 4).toNat l1.toNat) (2, 3) = true then (am_bi (am_run (24, 0) 0 ([some (.inr (.inr (am_get ω (am_get ω l0.toNat 4).toNat l1.toNat)))], [], ω)) (fun z1 ω1 => if z1 = 0 then (am_run (126, 0) 27 ([some (.inr (.inr l0)), some (.inl (am_w (l1 + 1)))], [], ω1)) else (if am_is ω1 l0 (6, 10) = true then (if am_ina ω1 (am_get ω1 l0.toNat 4) l1 = true then (if am_is ω1 (am_get ω1 (am_get ω1 l0.toNat 4).toNat l1.toNat) (2, 3) = true then (am_bi (am_run (26, 0) 0 ([some (.inr (.inr (am_get ω1 (am_get ω1 l0.toNat 4).toNat l1.toNat)))], [], ω1)) (fun z2 ω2 => if am_is ω2 (am_get ω1 l0.toNat 0) (5, 8) = true then (am_bi (am_run (58, 0) 0 ([some (.inr (.inr (am_get ω1 l0.toNat 0))), some (.inl z2)], [], ω2)) (fun z3 ω3 => if ¬ z3 = 0 then (am_run (126, 0) 27 ([some (.inr (.inr l0)), some (.inl (am_w (l1 + 1)))], [], ω3)) else (if am_is ω3 l0 (6, 10) = true then (if am_ina ω3 (am_get ω3 l0.toNat 4) l1 = true then (if am_is ω3 (am_get ω3 (am_get ω3 l0.toNat 4).toNat l1.toNat) (2, 3) = true then (am_bv (am_run (27, 0) 0 ([some (.inr (.inr (am_get ω3 (am_get ω3 l0.toNat 4).toNat l1.toNat)))], [], ω3)) (fun ω4 => am_run (126, 0) 27 ([some (.inr (.inr l0)), some (.inl (am_w (l1 + 1)))], [], ω4))) else none) else none) else none))) else none)) else none) else none) else none))) else none) else none) := by
  refine Eq.trans (rr_iload_n rfl rfl) ?_
  refine Eq.trans (rr_bipush rfl rfl) ?_
  refine Eq.trans (rr_icmp_ge rfl rfl) (it_cg (fun _ => ?_) (fun _ => ?_))
  · refine Eq.trans (rr_iconst rfl rfl) ?_
    exact rr_ireturn rfl rfl
  · refine Eq.trans (rr_aload_n rfl rfl) ?_
    refine Eq.trans (rr_getfr rfl rfl rfl h1) ?_
    refine Eq.trans (rr_iload_n rfl rfl) ?_
    refine ck_it (fun h => rr_aaload rfl h) (fun h => rr_aaload_no rfl h) (fun h2 => ?_)
    refine ck_it (fun h => rr_invV0i (S' := []) (L' := [some (.inr (.inr (am_get ω (am_get ω l0.toNat 4).toNat l1.toNat)))]) (m' := (24, 0)) rfl rfl rfl rfl rfl rfl h) (fun h => rr_invV0_no (S' := []) (L' := [some (.inr (.inr (am_get ω (am_get ω l0.toNat 4).toNat l1.toNat)))]) (m' := (24, 0)) rfl rfl rfl rfl rfl rfl h) (fun h3 => ?_)
    refine bi_cg (fun z1 ω1 => ?_)
    refine Eq.trans (rr_if_eq rfl rfl) (it_cg (fun _ => ?_) (fun _ => ?_))
    · refine Eq.trans (rr_iinc (L' := [some (.inr (.inr l0)), some (.inl (am_w (l1 + 1)))]) rfl rfl rfl) ?_
      refine Eq.trans (rr_goto rfl rfl) ?_
      rfl
    · refine Eq.trans (rr_aload_n rfl rfl) ?_
      refine ck_it (fun h => rr_getfr rfl rfl rfl h) (fun h => rr_getfield_no rfl rfl h) (fun h4 => ?_)
      refine Eq.trans (rr_aload_n rfl rfl) ?_
      refine Eq.trans (rr_getfr rfl rfl rfl h4) ?_
      refine Eq.trans (rr_iload_n rfl rfl) ?_
      refine ck_it (fun h => rr_aaload rfl h) (fun h => rr_aaload_no rfl h) (fun h5 => ?_)
      refine ck_it (fun h => rr_invV0i (S' := [.inr (.inr (am_get ω1 l0.toNat 0))]) (L' := [some (.inr (.inr (am_get ω1 (am_get ω1 l0.toNat 4).toNat l1.toNat)))]) (m' := (26, 0)) rfl rfl rfl rfl rfl rfl h) (fun h => rr_invV0_no (S' := [.inr (.inr (am_get ω1 l0.toNat 0))]) (L' := [some (.inr (.inr (am_get ω1 (am_get ω1 l0.toNat 4).toNat l1.toNat)))]) (m' := (26, 0)) rfl rfl rfl rfl rfl rfl h) (fun h6 => ?_)
      refine bi_cg (fun z2 ω2 => ?_)
      refine ck_it (fun h => rr_invV0i (S' := []) (L' := [some (.inr (.inr (am_get ω1 l0.toNat 0))), some (.inl z2)]) (m' := (58, 0)) rfl rfl rfl rfl rfl rfl h) (fun h => rr_invV0_no (S' := []) (L' := [some (.inr (.inr (am_get ω1 l0.toNat 0))), some (.inl z2)]) (m' := (58, 0)) rfl rfl rfl rfl rfl rfl h) (fun h7 => ?_)
      refine bi_cg (fun z3 ω3 => ?_)
      refine Eq.trans (rr_if_ne rfl rfl) (it_cg (fun _ => ?_) (fun _ => ?_))
      · refine Eq.trans (rr_iinc (L' := [some (.inr (.inr l0)), some (.inl (am_w (l1 + 1)))]) rfl rfl rfl) ?_
        refine Eq.trans (rr_goto rfl rfl) ?_
        rfl
      · refine Eq.trans (rr_aload_n rfl rfl) ?_
        refine ck_it (fun h => rr_getfr rfl rfl rfl h) (fun h => rr_getfield_no rfl rfl h) (fun h8 => ?_)
        refine Eq.trans (rr_iload_n rfl rfl) ?_
        refine ck_it (fun h => rr_aaload rfl h) (fun h => rr_aaload_no rfl h) (fun h9 => ?_)
        refine ck_it (fun h => rr_invV0v (S' := []) (L' := [some (.inr (.inr (am_get ω3 (am_get ω3 l0.toNat 4).toNat l1.toNat)))]) (m' := (27, 0)) rfl rfl rfl rfl rfl rfl h) (fun h => rr_invV0_no (S' := []) (L' := [some (.inr (.inr (am_get ω3 (am_get ω3 l0.toNat 4).toNat l1.toNat)))]) (m' := (27, 0)) rfl rfl rfl rfl rfl rfl h) (fun h10 => ?_)
        refine bv_cg (fun ω4 => ?_)
        refine Eq.trans (rr_iinc (L' := [some (.inr (.inr l0)), some (.inl (am_w (l1 + 1)))]) rfl rfl rfl) ?_
        refine Eq.trans (rr_goto rfl rfl) ?_
        rfl
theorem pX6_status_0 (l0 l1 : Int) (ω : am_W) (h2 : am_is ω l0 (6, 10) = true) (h3 : am_is ω (am_get ω l0.toNat 0) (5, 8) = true) (h10 : am_is ω (am_get ω l0.toNat 3) (3, 7) = true) : am_run (127, 0) 0 ([some (.inr (.inr l0)), some (.inl l1)], [], ω) = if l1 = 0 then (some (some (.inl (am_get ω (am_get ω l0.toNat 0).toNat 0)), ω)) else if l1 = 1 then (some (some (.inl (am_get ω (am_get ω l0.toNat 0).toNat 3)), ω)) else if l1 = 2 then (some (some (.inl (am_get ω (am_get ω l0.toNat 0).toNat 5)), ω)) else if l1 = 3 then (some (some (.inl (am_get ω (am_get ω l0.toNat 0).toNat 6)), ω)) else if l1 = 4 then (am_bi (am_run (67, 0) 0 ([some (.inr (.inr (am_get ω l0.toNat 0))), none, none], [], ω)) (fun z1 ω1 => some (some (.inl z1), ω1))) else if l1 = 5 then (am_bi (am_run (65, 0) 0 ([some (.inr (.inr (am_get ω l0.toNat 0))), none, none], [], ω)) (fun z2 ω2 => some (some (.inl z2), ω2))) else if l1 = 6 then (some (some (.inl (am_get ω (am_get ω l0.toNat 3).toNat 1)), ω)) else if l1 = 7 then (some (some (.inl (am_get ω (am_get ω l0.toNat 0).toNat 7)), ω)) else if l1 = 8 then (am_bi (am_run (130, 0) 0 ([some (.inr (.inr l0)), none, none], [], ω)) (fun z3 ω3 => some (some (.inl z3), ω3))) else (am_bi (am_run (129, 0) 0 ([some (.inr (.inr l0)), some (.inl (am_w (l1 - 12)))], [], ω)) (fun z4 ω4 => some (some (.inl z4), ω4))) := by
  refine Eq.trans (rr_iload_n rfl rfl) ?_
  refine sw_it (fun q1 => Eq.trans (rr_tsw rfl (by rw [q1]; rfl) rfl) ?_) (fun q1 => ?_)
  · refine Eq.trans (rr_aload_n rfl rfl) ?_
    refine Eq.trans (rr_getfr rfl rfl rfl h2) ?_
    refine Eq.trans (rr_getfi rfl rfl rfl h3) ?_
    exact rr_ireturn rfl rfl
  refine sw_it (fun q4 => Eq.trans (rr_tsw rfl (by rw [q4]; rfl) rfl) ?_) (fun q4 => ?_)
  · refine Eq.trans (rr_aload_n rfl rfl) ?_
    refine Eq.trans (rr_getfr rfl rfl rfl h2) ?_
    refine Eq.trans (rr_getfi rfl rfl rfl h3) ?_
    exact rr_ireturn rfl rfl
  refine sw_it (fun q5 => Eq.trans (rr_tsw rfl (by rw [q5]; rfl) rfl) ?_) (fun q5 => ?_)
  · refine Eq.trans (rr_aload_n rfl rfl) ?_
    refine Eq.trans (rr_getfr rfl rfl rfl h2) ?_
    refine Eq.trans (rr_getfi rfl rfl rfl h3) ?_
    exact rr_ireturn rfl rfl
  refine sw_it (fun q6 => Eq.trans (rr_tsw rfl (by rw [q6]; rfl) rfl) ?_) (fun q6 => ?_)
  · refine Eq.trans (rr_aload_n rfl rfl) ?_
    refine Eq.trans (rr_getfr rfl rfl rfl h2) ?_
    refine Eq.trans (rr_getfi rfl rfl rfl h3) ?_
    exact rr_ireturn rfl rfl
  refine sw_it (fun q7 => Eq.trans (rr_tsw rfl (by rw [q7]; rfl) rfl) ?_) (fun q7 => ?_)
  · refine Eq.trans (rr_aload_n rfl rfl) ?_
    refine Eq.trans (rr_getfr rfl rfl rfl h2) ?_
    refine Eq.trans (rr_invV0i (S' := []) (L' := [some (.inr (.inr (am_get ω l0.toNat 0))), none, none]) (m' := (67, 0)) rfl rfl rfl rfl rfl rfl h3) ?_
    refine bi_cg (fun z1 ω1 => ?_)
    exact rr_ireturn rfl rfl
  refine sw_it (fun q8 => Eq.trans (rr_tsw rfl (by rw [q8]; rfl) rfl) ?_) (fun q8 => ?_)
  · refine Eq.trans (rr_aload_n rfl rfl) ?_
    refine Eq.trans (rr_getfr rfl rfl rfl h2) ?_
    refine Eq.trans (rr_invV0i (S' := []) (L' := [some (.inr (.inr (am_get ω l0.toNat 0))), none, none]) (m' := (65, 0)) rfl rfl rfl rfl rfl rfl h3) ?_
    refine bi_cg (fun z2 ω2 => ?_)
    exact rr_ireturn rfl rfl
  refine sw_it (fun q9 => Eq.trans (rr_tsw rfl (by rw [q9]; rfl) rfl) ?_) (fun q9 => ?_)
  · refine Eq.trans (rr_aload_n rfl rfl) ?_
    refine Eq.trans (rr_getfr rfl rfl rfl h2) ?_
    refine Eq.trans (rr_getfi rfl rfl rfl h10) ?_
    exact rr_ireturn rfl rfl
  refine sw_it (fun q11 => Eq.trans (rr_tsw rfl (by rw [q11]; rfl) rfl) ?_) (fun q11 => ?_)
  · refine Eq.trans (rr_aload_n rfl rfl) ?_
    refine Eq.trans (rr_getfr rfl rfl rfl h2) ?_
    refine Eq.trans (rr_getfi rfl rfl rfl h3) ?_
    exact rr_ireturn rfl rfl
  refine sw_it (fun q12 => Eq.trans (rr_tsw rfl (by rw [q12]; rfl) rfl) ?_) (fun q12 => ?_)
  · refine Eq.trans (rr_aload_n rfl rfl) ?_
    refine Eq.trans (rr_invV0i (S' := []) (L' := [some (.inr (.inr l0)), none, none]) (m' := (130, 0)) rfl rfl rfl rfl rfl rfl h2) ?_
    refine bi_cg (fun z3 ω3 => ?_)
    exact rr_ireturn rfl rfl
  refine Eq.trans (rr_tsw rfl (am_tsw_out (by omega)) rfl) ?_
  refine Eq.trans (rr_aload_n rfl rfl) ?_
  refine Eq.trans (rr_iload_n rfl rfl) ?_
  refine Eq.trans (rr_bipush rfl rfl) ?_
  refine Eq.trans (rr_isub rfl) ?_
  refine Eq.trans (rr_invV0i (S' := []) (L' := [some (.inr (.inr l0)), some (.inl (am_w (l1 - 12)))]) (m' := (129, 0)) rfl rfl rfl rfl rfl rfl h2) ?_
  refine bi_cg (fun z4 ω4 => ?_)
  exact rr_ireturn rfl rfl
theorem pX6_refuse_0 (l0 l1 : Int) (ω : am_W) (h1 : am_is ω l0 (6, 10) = true) : am_run (128, 0) 0 ([some (.inr (.inr l0)), some (.inl l1), none], [], ω) = if (am_w (((-2)) - l1)) < 0 then (some (some (.inl l1), ω)) else (if 5 ≤ (am_w (((-2)) - l1)) then (some (some (.inl l1), ω)) else (if am_in ω (am_get ω l0.toNat 5) 100 (am_w (((-2)) - l1)) = true then (some (some (.inl l1), am_put ω (am_get ω l0.toNat 5).toNat (am_w (((-2)) - l1)).toNat (am_w ((am_get ω (am_get ω l0.toNat 5).toNat (am_w (((-2)) - l1)).toNat) + 1)))) else none)) := by
  refine Eq.trans (rr_bipush rfl rfl) ?_
  refine Eq.trans (rr_iload_n rfl rfl) ?_
  refine Eq.trans (rr_isub rfl) ?_
  refine Eq.trans (rr_istore_n (L' := [some (.inr (.inr l0)), some (.inl l1), some (.inl (am_w (((-2)) - l1)))]) rfl rfl) ?_
  refine Eq.trans (rr_iload_n rfl rfl) ?_
  refine Eq.trans (rr_if_lt rfl rfl) (it_cg (fun _ => ?_) (fun _ => ?_))
  · refine Eq.trans (rr_iload_n rfl rfl) ?_
    exact rr_ireturn rfl rfl
  · refine Eq.trans (rr_iload_n rfl rfl) ?_
    refine Eq.trans (rr_iconst rfl rfl) ?_
    refine Eq.trans (rr_icmp_ge rfl rfl) (it_cg (fun _ => ?_) (fun _ => ?_))
    · refine Eq.trans (rr_iload_n rfl rfl) ?_
      exact rr_ireturn rfl rfl
    · refine Eq.trans (rr_aload_n rfl rfl) ?_
      refine Eq.trans (rr_getfr rfl rfl rfl h1) ?_
      refine Eq.trans (rr_iload_n rfl rfl) ?_
      refine Eq.trans (rr_dup2 rfl) ?_
      refine ck_it (fun h => rr_iaload rfl rfl h) (fun h => rr_iaload_no rfl rfl h) (fun h2 => ?_)
      refine Eq.trans (rr_iconst rfl rfl) ?_
      refine Eq.trans (rr_iadd rfl) ?_
      refine Eq.trans (rr_iastore rfl h2) ?_
      refine Eq.trans (rr_iload_n rfl rfl) ?_
      exact rr_ireturn rfl rfl
theorem pX6_refusalsOf_0 (l0 l1 : Int) (ω : am_W) (h1 : am_is ω l0 (6, 10) = true) : am_run (129, 0) 0 ([some (.inr (.inr l0)), some (.inl l1)], [], ω) = if l1 < 0 then (some (some (.inl ((-1))), ω)) else (if 5 ≤ l1 then (some (some (.inl ((-1))), ω)) else (if am_in ω (am_get ω l0.toNat 5) 100 l1 = true then (some (some (.inl (am_get ω (am_get ω l0.toNat 5).toNat l1.toNat)), ω)) else none)) := by
  refine Eq.trans (rr_iload_n rfl rfl) ?_
  refine Eq.trans (rr_if_lt rfl rfl) (it_cg (fun _ => ?_) (fun _ => ?_))
  · refine Eq.trans (rr_iconst rfl rfl) ?_
    exact rr_ireturn rfl rfl
  · refine Eq.trans (rr_iload_n rfl rfl) ?_
    refine Eq.trans (rr_iconst rfl rfl) ?_
    refine Eq.trans (rr_icmp_ge rfl rfl) (it_cg (fun _ => ?_) (fun _ => ?_))
    · refine Eq.trans (rr_iconst rfl rfl) ?_
      exact rr_ireturn rfl rfl
    · refine Eq.trans (rr_aload_n rfl rfl) ?_
      refine Eq.trans (rr_getfr rfl rfl rfl h1) ?_
      refine Eq.trans (rr_iload_n rfl rfl) ?_
      refine ck_it (fun h => rr_iaload rfl rfl h) (fun h => rr_iaload_no rfl rfl h) (fun h2 => ?_)
      refine Eq.trans (rr_goto rfl rfl) ?_
      exact rr_ireturn rfl rfl
theorem pX6_shelvesInUse_0 (l0 : Int) (ω : am_W) : am_run (130, 0) 0 ([some (.inr (.inr l0)), none, none], [], ω) = am_run (130, 0) 4 ([some (.inr (.inr l0)), some (.inl 0), some (.inl 0)], [], ω) := by
  refine Eq.trans (rr_iconst rfl rfl) ?_
  refine Eq.trans (rr_istore_n (L' := [some (.inr (.inr l0)), some (.inl 0), none]) rfl rfl) ?_
  refine Eq.trans (rr_iconst rfl rfl) ?_
  refine Eq.trans (rr_istore_n (L' := [some (.inr (.inr l0)), some (.inl 0), some (.inl 0)]) rfl rfl) ?_
  rfl
theorem pX6_shelvesInUse_4 (l0 l1 l2 : Int) (ω : am_W) (h1 : am_is ω l0 (6, 10) = true) : am_run (130, 0) 4 ([some (.inr (.inr l0)), some (.inl l1), some (.inl l2)], [], ω) = if 8 ≤ l2 then (some (some (.inl l1), ω)) else (if am_ina ω (am_get ω l0.toNat 4) l2 = true then (if am_is ω (am_get ω (am_get ω l0.toNat 4).toNat l2.toNat) (2, 3) = true then (am_bi (am_run (23, 0) 0 ([some (.inr (.inr (am_get ω (am_get ω l0.toNat 4).toNat l2.toNat)))], [], ω)) (fun z1 ω1 => if ¬ z1 = 0 then (am_run (130, 0) 4 ([some (.inr (.inr l0)), some (.inl l1), some (.inl (am_w (l2 + 1)))], [], ω1)) else (am_run (130, 0) 4 ([some (.inr (.inr l0)), some (.inl (am_w (l1 + 1))), some (.inl (am_w (l2 + 1)))], [], ω1)))) else none) else none) := by
  refine Eq.trans (rr_iload_n rfl rfl) ?_
  refine Eq.trans (rr_bipush rfl rfl) ?_
  refine Eq.trans (rr_icmp_ge rfl rfl) (it_cg (fun _ => ?_) (fun _ => ?_))
  · refine Eq.trans (rr_iload_n rfl rfl) ?_
    exact rr_ireturn rfl rfl
  · refine Eq.trans (rr_aload_n rfl rfl) ?_
    refine Eq.trans (rr_getfr rfl rfl rfl h1) ?_
    refine Eq.trans (rr_iload_n rfl rfl) ?_
    refine ck_it (fun h => rr_aaload rfl h) (fun h => rr_aaload_no rfl h) (fun h2 => ?_)
    refine ck_it (fun h => rr_invV0i (S' := []) (L' := [some (.inr (.inr (am_get ω (am_get ω l0.toNat 4).toNat l2.toNat)))]) (m' := (23, 0)) rfl rfl rfl rfl rfl rfl h) (fun h => rr_invV0_no (S' := []) (L' := [some (.inr (.inr (am_get ω (am_get ω l0.toNat 4).toNat l2.toNat)))]) (m' := (23, 0)) rfl rfl rfl rfl rfl rfl h) (fun h3 => ?_)
    refine bi_cg (fun z1 ω1 => ?_)
    refine Eq.trans (rr_if_ne rfl rfl) (it_cg (fun _ => ?_) (fun _ => ?_))
    · refine Eq.trans (rr_iinc (L' := [some (.inr (.inr l0)), some (.inl l1), some (.inl (am_w (l2 + 1)))]) rfl rfl rfl) ?_
      refine Eq.trans (rr_goto rfl rfl) ?_
      rfl
    · refine Eq.trans (rr_iinc (L' := [some (.inr (.inr l0)), some (.inl (am_w (l1 + 1))), some (.inl l2)]) rfl rfl rfl) ?_
      refine Eq.trans (rr_iinc (L' := [some (.inr (.inr l0)), some (.inl (am_w (l1 + 1))), some (.inl (am_w (l2 + 1)))]) rfl rfl rfl) ?_
      refine Eq.trans (rr_goto rfl rfl) ?_
      rfl
theorem pX6_rowRefusal_0 (l0 l1 l2 l3 : Int) (ω : am_W) : am_run (131, 0) 0 ([some (.inr (.inr l0)), some (.inl l1), some (.inl l2), some (.inl l3), none], [], ω) = am_bi (am_run (140, 0) 0 ([some (.inl l1)], [], ω)) (fun z1 ω1 => if z1 = 0 then (some (some (.inl ((-2))), ω1)) else (if ¬ l2 = 0 then (if am_is ω1 l0 (6, 10) = true then (if am_ina ω1 (am_get ω1 l0.toNat 4) l1 = true then (if am_is ω1 (am_get ω1 (am_get ω1 l0.toNat 4).toNat l1.toNat) (2, 3) = true then (am_bi (am_run (24, 0) 0 ([some (.inr (.inr (am_get ω1 (am_get ω1 l0.toNat 4).toNat l1.toNat)))], [], ω1)) (fun z2 ω2 => if z2 = 0 then (if am_is ω2 (am_get ω1 (am_get ω1 l0.toNat 4).toNat l1.toNat) (2, 3) = true then (am_bi (am_run (23, 0) 0 ([some (.inr (.inr (am_get ω1 (am_get ω1 l0.toNat 4).toNat l1.toNat)))], [], ω2)) (fun z3 ω3 => if z3 = 0 then (if am_is ω3 (am_get ω1 (am_get ω1 l0.toNat 4).toNat l1.toNat) (2, 3) = true then (if l3 ≤ (am_get ω3 (am_get ω1 (am_get ω1 l0.toNat 4).toNat l1.toNat).toNat 1) then (some (some (.inl 0), ω3)) else (some (some (.inl ((-2))), ω3))) else none) else (some (some (.inl ((-4))), ω3)))) else none) else (some (some (.inl ((-3))), ω2)))) else none) else none) else none) else (some (some (.inl ((-2))), ω1)))) := by
  refine Eq.trans (rr_iload_n rfl rfl) ?_
  refine Eq.trans (rr_invS2i (S' := []) (L' := [some (.inl l1)]) (m' := (140, 0)) rfl rfl rfl rfl rfl rfl) ?_
  refine bi_cg (fun z1 ω1 => ?_)
  refine Eq.trans (rr_if_eq rfl rfl) (it_cg (fun _ => ?_) (fun _ => ?_))
  · refine Eq.trans (rr_bipush rfl rfl) ?_
    exact rr_ireturn rfl rfl
  · refine Eq.trans (rr_iload_n rfl rfl) ?_
    refine Eq.trans (rr_if_ne rfl rfl) (it_cg (fun _ => ?_) (fun _ => ?_))
    · refine Eq.trans (rr_aload_n rfl rfl) ?_
      refine ck_it (fun h => rr_getfr rfl rfl rfl h) (fun h => rr_getfield_no rfl rfl h) (fun h1 => ?_)
      refine Eq.trans (rr_iload_n rfl rfl) ?_
      refine ck_it (fun h => rr_aaload rfl h) (fun h => rr_aaload_no rfl h) (fun h2 => ?_)
      refine Eq.trans (rr_astore (L' := [some (.inr (.inr l0)), some (.inl l1), some (.inl l2), some (.inl l3), some (.inr (.inr (am_get ω1 (am_get ω1 l0.toNat 4).toNat l1.toNat)))]) rfl rfl) ?_
      refine Eq.trans (rr_aload rfl rfl) ?_
      refine ck_it (fun h => rr_invV0i (S' := []) (L' := [some (.inr (.inr (am_get ω1 (am_get ω1 l0.toNat 4).toNat l1.toNat)))]) (m' := (24, 0)) rfl rfl rfl rfl rfl rfl h) (fun h => rr_invV0_no (S' := []) (L' := [some (.inr (.inr (am_get ω1 (am_get ω1 l0.toNat 4).toNat l1.toNat)))]) (m' := (24, 0)) rfl rfl rfl rfl rfl rfl h) (fun h3 => ?_)
      refine bi_cg (fun z2 ω2 => ?_)
      refine Eq.trans (rr_if_eq rfl rfl) (it_cg (fun _ => ?_) (fun _ => ?_))
      · refine Eq.trans (rr_aload rfl rfl) ?_
        refine ck_it (fun h => rr_invV0i (S' := []) (L' := [some (.inr (.inr (am_get ω1 (am_get ω1 l0.toNat 4).toNat l1.toNat)))]) (m' := (23, 0)) rfl rfl rfl rfl rfl rfl h) (fun h => rr_invV0_no (S' := []) (L' := [some (.inr (.inr (am_get ω1 (am_get ω1 l0.toNat 4).toNat l1.toNat)))]) (m' := (23, 0)) rfl rfl rfl rfl rfl rfl h) (fun h4 => ?_)
        refine bi_cg (fun z3 ω3 => ?_)
        refine Eq.trans (rr_if_eq rfl rfl) (it_cg (fun _ => ?_) (fun _ => ?_))
        · refine Eq.trans (rr_aload rfl rfl) ?_
          refine ck_it (fun h => rr_getfi rfl rfl rfl h) (fun h => rr_getfield_no rfl rfl h) (fun h5 => ?_)
          refine Eq.trans (rr_iload_n rfl rfl) ?_
          refine Eq.trans (rr_icmp_ge rfl rfl) (it_cg (fun _ => ?_) (fun _ => ?_))
          · refine Eq.trans (rr_iconst rfl rfl) ?_
            exact rr_ireturn rfl rfl
          · refine Eq.trans (rr_bipush rfl rfl) ?_
            refine Eq.trans (rr_goto rfl rfl) ?_
            exact rr_ireturn rfl rfl
        · refine Eq.trans (rr_bipush rfl rfl) ?_
          exact rr_ireturn rfl rfl
      · refine Eq.trans (rr_bipush rfl rfl) ?_
        exact rr_ireturn rfl rfl
    · refine Eq.trans (rr_bipush rfl rfl) ?_
      exact rr_ireturn rfl rfl
theorem pX6_saying_0 (l0 l1 l2 : Int) (ω : am_W) (h1 : am_is ω l0 (6, 10) = true) (h2 : am_is ω (am_get ω l0.toNat 0) (5, 8) = true) : am_run (132, 0) 0 ([some (.inr (.inr l0)), some (.inl l1), some (.inl l2), none], [], ω) = if am_ina ω (am_get ω (am_get ω l0.toNat 0).toNat 4) l1 = true then (if l2 = 1 then (if am_is ω (am_get ω (am_get ω (am_get ω l0.toNat 0).toNat 4).toNat l1.toNat) (4, 5) = true then (am_bi (am_run (69, 0) 0 ([some (.inr (.inr (am_get ω l0.toNat 0))), some (.inr (.inr (am_get ω (am_get ω (am_get ω l0.toNat 0).toNat 4).toNat l1.toNat))), some (.inl (am_get ω (am_get ω (am_get ω (am_get ω l0.toNat 0).toNat 4).toNat l1.toNat).toNat 1)), some (.inl 1), none], [], ω)) (fun z1 ω1 => am_bi (am_run (236, 0) 0 ([some (.inl 0), some (.inl z1)], [], ω1)) (fun z2 ω2 => some (some (.inl z2), ω2)))) else none) else if l2 = 2 then (am_bi (am_run (68, 0) 0 ([some (.inr (.inr (am_get ω l0.toNat 0))), some (.inl l1), none, none], [], ω)) (fun z3 ω3 => some (some (.inl z3), ω3))) else if l2 = 3 then (if am_is ω (am_get ω (am_get ω (am_get ω l0.toNat 0).toNat 4).toNat l1.toNat) (4, 5) = true then (am_bi (am_run (66, 0) 0 ([some (.inr (.inr (am_get ω l0.toNat 0))), some (.inl (am_get ω (am_get ω (am_get ω (am_get ω l0.toNat 0).toNat 4).toNat l1.toNat).toNat 1))], [], ω)) (fun z4 ω4 => am_bi (am_run (234, 0) 0 ([some (.inl (am_and z4 (am_xor (am_shl 1 l1) ((-1)))))], [], ω4)) (fun z5 ω5 => some (some (.inl z5), ω5)))) else none) else if l2 = 4 then (if am_is ω (am_get ω (am_get ω (am_get ω l0.toNat 0).toNat 4).toNat l1.toNat) (4, 5) = true then (am_bi (am_run (61, 0) 0 ([some (.inr (.inr (am_get ω l0.toNat 0))), some (.inl (am_get ω (am_get ω (am_get ω (am_get ω l0.toNat 0).toNat 4).toNat l1.toNat).toNat 1))], [], ω)) (fun z6 ω6 => some (some (.inl (am_w (z6 - 1))), ω6))) else none) else if l2 = 5 then (am_bi (am_run (67, 0) 0 ([some (.inr (.inr (am_get ω l0.toNat 0))), none, none], [], ω)) (fun z7 ω7 => if am_is ω7 (am_get ω (am_get ω (am_get ω l0.toNat 0).toNat 4).toNat l1.toNat) (4, 5) = true then (some (some (.inl (am_w ((am_w ((am_w ((am_get ω (am_get ω l0.toNat 0).toNat 3) - 1)) * 99)) - (am_w (z7 - (am_get ω7 (am_get ω (am_get ω (am_get ω l0.toNat 0).toNat 4).toNat l1.toNat).toNat 3)))))), ω7)) else none)) else (if am_is ω (am_get ω (am_get ω (am_get ω l0.toNat 0).toNat 4).toNat l1.toNat) (4, 5) = true then (some (some (.inl (am_get ω (am_get ω (am_get ω (am_get ω l0.toNat 0).toNat 4).toNat l1.toNat).toNat 3)), ω)) else none)) else none := by
  refine Eq.trans (rr_aload_n rfl rfl) ?_
  refine Eq.trans (rr_getfr rfl rfl rfl h1) ?_
  refine Eq.trans (rr_getfr rfl rfl rfl h2) ?_
  refine Eq.trans (rr_iload_n rfl rfl) ?_
  refine ck_it (fun h => rr_aaload rfl h) (fun h => rr_aaload_no rfl h) (fun h3 => ?_)
  refine Eq.trans (rr_astore_n (L' := [some (.inr (.inr l0)), some (.inl l1), some (.inl l2), some (.inr (.inr (am_get ω (am_get ω (am_get ω l0.toNat 0).toNat 4).toNat l1.toNat)))]) rfl rfl) ?_
  refine Eq.trans (rr_iload_n rfl rfl) ?_
  refine sw_it (fun q4 => Eq.trans (rr_tsw rfl (by rw [q4]; rfl) rfl) ?_) (fun q4 => ?_)
  · refine Eq.trans (rr_iconst rfl rfl) ?_
    refine Eq.trans (rr_aload_n rfl rfl) ?_
    refine Eq.trans (rr_getfr rfl rfl rfl h1) ?_
    refine Eq.trans (rr_aload_n rfl rfl) ?_
    refine Eq.trans (rr_aload_n rfl rfl) ?_
    refine ck_it (fun h => rr_getfi rfl rfl rfl h) (fun h => rr_getfield_no rfl rfl h) (fun h5 => ?_)
    refine Eq.trans (rr_iconst rfl rfl) ?_
    refine Eq.trans (rr_invV0i (S' := [.inl 0]) (L' := [some (.inr (.inr (am_get ω l0.toNat 0))), some (.inr (.inr (am_get ω (am_get ω (am_get ω l0.toNat 0).toNat 4).toNat l1.toNat))), some (.inl (am_get ω (am_get ω (am_get ω (am_get ω l0.toNat 0).toNat 4).toNat l1.toNat).toNat 1)), some (.inl 1), none]) (m' := (69, 0)) rfl rfl rfl rfl rfl rfl h2) ?_
    refine bi_cg (fun z1 ω1 => ?_)
    refine Eq.trans (rr_invS2i (S' := []) (L' := [some (.inl 0), some (.inl z1)]) (m' := (236, 0)) rfl rfl rfl rfl rfl rfl) ?_
    refine bi_cg (fun z2 ω2 => ?_)
    exact rr_ireturn rfl rfl
  refine sw_it (fun q6 => Eq.trans (rr_tsw rfl (by rw [q6]; rfl) rfl) ?_) (fun q6 => ?_)
  · refine Eq.trans (rr_aload_n rfl rfl) ?_
    refine Eq.trans (rr_getfr rfl rfl rfl h1) ?_
    refine Eq.trans (rr_iload_n rfl rfl) ?_
    refine Eq.trans (rr_invV0i (S' := []) (L' := [some (.inr (.inr (am_get ω l0.toNat 0))), some (.inl l1), none, none]) (m' := (68, 0)) rfl rfl rfl rfl rfl rfl h2) ?_
    refine bi_cg (fun z3 ω3 => ?_)
    exact rr_ireturn rfl rfl
  refine sw_it (fun q7 => Eq.trans (rr_tsw rfl (by rw [q7]; rfl) rfl) ?_) (fun q7 => ?_)
  · refine Eq.trans (rr_aload_n rfl rfl) ?_
    refine Eq.trans (rr_getfr rfl rfl rfl h1) ?_
    refine Eq.trans (rr_aload_n rfl rfl) ?_
    refine ck_it (fun h => rr_getfi rfl rfl rfl h) (fun h => rr_getfield_no rfl rfl h) (fun h8 => ?_)
    refine Eq.trans (rr_invV0i (S' := []) (L' := [some (.inr (.inr (am_get ω l0.toNat 0))), some (.inl (am_get ω (am_get ω (am_get ω (am_get ω l0.toNat 0).toNat 4).toNat l1.toNat).toNat 1))]) (m' := (66, 0)) rfl rfl rfl rfl rfl rfl h2) ?_
    refine bi_cg (fun z4 ω4 => ?_)
    refine Eq.trans (rr_iconst rfl rfl) ?_
    refine Eq.trans (rr_iload_n rfl rfl) ?_
    refine Eq.trans (rr_ishl rfl) ?_
    refine Eq.trans (rr_iconst rfl rfl) ?_
    refine Eq.trans (rr_ixor rfl) ?_
    refine Eq.trans (rr_iand rfl) ?_
    refine Eq.trans (rr_invS2i (S' := []) (L' := [some (.inl (am_and z4 (am_xor (am_shl 1 l1) ((-1)))))]) (m' := (234, 0)) rfl rfl rfl rfl rfl rfl) ?_
    refine bi_cg (fun z5 ω5 => ?_)
    exact rr_ireturn rfl rfl
  refine sw_it (fun q9 => Eq.trans (rr_tsw rfl (by rw [q9]; rfl) rfl) ?_) (fun q9 => ?_)
  · refine Eq.trans (rr_aload_n rfl rfl) ?_
    refine Eq.trans (rr_getfr rfl rfl rfl h1) ?_
    refine Eq.trans (rr_aload_n rfl rfl) ?_
    refine ck_it (fun h => rr_getfi rfl rfl rfl h) (fun h => rr_getfield_no rfl rfl h) (fun h10 => ?_)
    refine Eq.trans (rr_invV0i (S' := []) (L' := [some (.inr (.inr (am_get ω l0.toNat 0))), some (.inl (am_get ω (am_get ω (am_get ω (am_get ω l0.toNat 0).toNat 4).toNat l1.toNat).toNat 1))]) (m' := (61, 0)) rfl rfl rfl rfl rfl rfl h2) ?_
    refine bi_cg (fun z6 ω6 => ?_)
    refine Eq.trans (rr_iconst rfl rfl) ?_
    refine Eq.trans (rr_isub rfl) ?_
    exact rr_ireturn rfl rfl
  refine sw_it (fun q11 => Eq.trans (rr_tsw rfl (by rw [q11]; rfl) rfl) ?_) (fun q11 => ?_)
  · refine Eq.trans (rr_aload_n rfl rfl) ?_
    refine Eq.trans (rr_getfr rfl rfl rfl h1) ?_
    refine Eq.trans (rr_getfi rfl rfl rfl h2) ?_
    refine Eq.trans (rr_iconst rfl rfl) ?_
    refine Eq.trans (rr_isub rfl) ?_
    refine Eq.trans (rr_bipush rfl rfl) ?_
    refine Eq.trans (rr_imul rfl) ?_
    refine Eq.trans (rr_aload_n rfl rfl) ?_
    refine Eq.trans (rr_getfr rfl rfl rfl h1) ?_
    refine Eq.trans (rr_invV0i (S' := [.inl (am_w ((am_w ((am_get ω (am_get ω l0.toNat 0).toNat 3) - 1)) * 99))]) (L' := [some (.inr (.inr (am_get ω l0.toNat 0))), none, none]) (m' := (67, 0)) rfl rfl rfl rfl rfl rfl h2) ?_
    refine bi_cg (fun z7 ω7 => ?_)
    refine Eq.trans (rr_aload_n rfl rfl) ?_
    refine ck_it (fun h => rr_getfi rfl rfl rfl h) (fun h => rr_getfield_no rfl rfl h) (fun h12 => ?_)
    refine Eq.trans (rr_isub rfl) ?_
    refine Eq.trans (rr_isub rfl) ?_
    exact rr_ireturn rfl rfl
  refine Eq.trans (rr_tsw rfl (am_tsw_out (by omega)) rfl) ?_
  refine Eq.trans (rr_aload_n rfl rfl) ?_
  refine ck_it (fun h => rr_getfi rfl rfl rfl h) (fun h => rr_getfield_no rfl rfl h) (fun h13 => ?_)
  exact rr_ireturn rfl rfl
theorem pX6_firstWrongCode_0 (l0 l1 l2 l3 : Int) (ω : am_W) (h1 : am_is ω l0 (6, 10) = true) (h2 : am_is ω (am_get ω l0.toNat 0) (5, 8) = true) (h4 : am_is ω (am_get ω l0.toNat 6) (4, 5) = true) : am_run (133, 0) 0 ([some (.inr (.inr l0)), some (.inr (.inr l1)), some (.inl l2), some (.inl l3), none], [], ω) = if am_ina ω (am_get ω (am_get ω l0.toNat 0).toNat 4) l3 = true then (am_bv (am_run (47, 0) 0 ([some (.inr (.inr (am_get ω l0.toNat 6))), some (.inr (.inr (am_get ω (am_get ω (am_get ω l0.toNat 0).toNat 4).toNat l3.toNat)))], [], ω)) (fun ω1 => am_run (133, 0) 19 ([some (.inr (.inr l0)), some (.inr (.inr l1)), some (.inl l2), some (.inl l3), some (.inl 0)], [], ω1))) else none := by
  refine Eq.trans (rr_aload_n rfl rfl) ?_
  refine Eq.trans (rr_getfr rfl rfl rfl h1) ?_
  refine Eq.trans (rr_aload_n rfl rfl) ?_
  refine Eq.trans (rr_getfr rfl rfl rfl h1) ?_
  refine Eq.trans (rr_getfr rfl rfl rfl h2) ?_
  refine Eq.trans (rr_iload_n rfl rfl) ?_
  refine ck_it (fun h => rr_aaload rfl h) (fun h => rr_aaload_no rfl h) (fun h3 => ?_)
  refine Eq.trans (rr_invV0v (S' := []) (L' := [some (.inr (.inr (am_get ω l0.toNat 6))), some (.inr (.inr (am_get ω (am_get ω (am_get ω l0.toNat 0).toNat 4).toNat l3.toNat)))]) (m' := (47, 0)) rfl rfl rfl rfl rfl rfl h4) ?_
  refine bv_cg (fun ω1 => ?_)
  refine Eq.trans (rr_iconst rfl rfl) ?_
  refine Eq.trans (rr_istore (L' := [some (.inr (.inr l0)), some (.inr (.inr l1)), some (.inl l2), some (.inl l3), some (.inl 0)]) rfl rfl) ?_
  rfl
theorem pX6_firstWrongCode_19 (l0 l1 l2 l3 l4 : Int) (ω : am_W) (h1 : am_is ω l1 (2, 3) = true) (h2 : am_is ω l0 (6, 10) = true) (h4 : am_is ω (am_get ω l0.toNat 0) (5, 8) = true) : am_run (133, 0) 19 ([some (.inr (.inr l0)), some (.inr (.inr l1)), some (.inl l2), some (.inl l3), some (.inl l4)], [], ω) = if l2 ≤ l4 then (some (some (.inl ((-1))), ω)) else (if (am_get ω l1.toNat 1) ≤ l4 then (some (some (.inl ((-1))), ω)) else (if am_in ω (am_get ω l1.toNat 2) 101 l4 = true then (am_bi (am_run (76, 0) 0 ([some (.inr (.inr (am_get ω l0.toNat 0))), some (.inr (.inr (am_get ω l0.toNat 6))), some (.inr (.inl (am_get ω (am_get ω l1.toNat 2).toNat l4.toNat))), none, none], [], ω)) (fun z1 ω1 => if ¬ z1 = 0 then (am_run (133, 0) 19 ([some (.inr (.inr l0)), some (.inr (.inr l1)), some (.inl l2), some (.inl l3), some (.inl (am_w (l4 + 1)))], [], ω1)) else (some (some (.inl l4), ω1)))) else none)) := by
  refine Eq.trans (rr_iload rfl rfl) ?_
  refine Eq.trans (rr_iload_n rfl rfl) ?_
  refine Eq.trans (rr_icmp_ge rfl rfl) (it_cg (fun _ => ?_) (fun _ => ?_))
  · refine Eq.trans (rr_iconst rfl rfl) ?_
    exact rr_ireturn rfl rfl
  · refine Eq.trans (rr_iload rfl rfl) ?_
    refine Eq.trans (rr_aload_n rfl rfl) ?_
    refine Eq.trans (rr_getfi rfl rfl rfl h1) ?_
    refine Eq.trans (rr_icmp_ge rfl rfl) (it_cg (fun _ => ?_) (fun _ => ?_))
    · refine Eq.trans (rr_iconst rfl rfl) ?_
      exact rr_ireturn rfl rfl
    · refine Eq.trans (rr_aload_n rfl rfl) ?_
      refine Eq.trans (rr_getfr rfl rfl rfl h2) ?_
      refine Eq.trans (rr_aload_n rfl rfl) ?_
      refine Eq.trans (rr_getfr rfl rfl rfl h2) ?_
      refine Eq.trans (rr_aload_n rfl rfl) ?_
      refine Eq.trans (rr_getfr rfl rfl rfl h1) ?_
      refine Eq.trans (rr_iload rfl rfl) ?_
      refine ck_it (fun h => rr_laload rfl h) (fun h => rr_laload_no rfl h) (fun h3 => ?_)
      refine Eq.trans (rr_invV0i (S' := []) (L' := [some (.inr (.inr (am_get ω l0.toNat 0))), some (.inr (.inr (am_get ω l0.toNat 6))), some (.inr (.inl (am_get ω (am_get ω l1.toNat 2).toNat l4.toNat))), none, none]) (m' := (76, 0)) rfl rfl rfl rfl rfl rfl h4) ?_
      refine bi_cg (fun z1 ω1 => ?_)
      refine Eq.trans (rr_if_ne rfl rfl) (it_cg (fun _ => ?_) (fun _ => ?_))
      · refine Eq.trans (rr_iinc (L' := [some (.inr (.inr l0)), some (.inr (.inr l1)), some (.inl l2), some (.inl l3), some (.inl (am_w (l4 + 1)))]) rfl rfl rfl) ?_
        refine Eq.trans (rr_goto rfl rfl) ?_
        rfl
      · refine Eq.trans (rr_iload rfl rfl) ?_
        exact rr_ireturn rfl rfl
theorem pX6_firstMeeting_0 (l0 l1 l2 l3 l4 : Int) (ω : am_W) (h1 : am_is ω l0 (6, 10) = true) (h2 : am_is ω (am_get ω l0.toNat 0) (5, 8) = true) (h4 : am_is ω (am_get ω l0.toNat 6) (4, 5) = true) : am_run (134, 0) 0 ([some (.inr (.inr l0)), some (.inr (.inr l1)), some (.inl l2), some (.inl l3), some (.inl l4), none], [], ω) = if am_ina ω (am_get ω (am_get ω l0.toNat 0).toNat 4) l3 = true then (am_bv (am_run (47, 0) 0 ([some (.inr (.inr (am_get ω l0.toNat 6))), some (.inr (.inr (am_get ω (am_get ω (am_get ω l0.toNat 0).toNat 4).toNat l3.toNat)))], [], ω)) (fun ω1 => if am_is ω1 l0 (6, 10) = true then (if am_is ω1 (am_get ω1 l0.toNat 0) (5, 8) = true then (if am_ina ω1 (am_get ω1 (am_get ω1 l0.toNat 0).toNat 4) l4 = true then (if am_is ω1 (am_get ω1 l0.toNat 7) (4, 5) = true then (am_bv (am_run (47, 0) 0 ([some (.inr (.inr (am_get ω1 l0.toNat 7))), some (.inr (.inr (am_get ω1 (am_get ω1 (am_get ω1 l0.toNat 0).toNat 4).toNat l4.toNat)))], [], ω1)) (fun ω2 => am_run (134, 0) 36 ([some (.inr (.inr l0)), some (.inr (.inr l1)), some (.inl l2), some (.inl l3), some (.inl l4), some (.inl 0)], [], ω2))) else none) else none) else none) else none)) else none := by
  refine Eq.trans (rr_aload_n rfl rfl) ?_
  refine Eq.trans (rr_getfr rfl rfl rfl h1) ?_
  refine Eq.trans (rr_aload_n rfl rfl) ?_
  refine Eq.trans (rr_getfr rfl rfl rfl h1) ?_
  refine Eq.trans (rr_getfr rfl rfl rfl h2) ?_
  refine Eq.trans (rr_iload_n rfl rfl) ?_
  refine ck_it (fun h => rr_aaload rfl h) (fun h => rr_aaload_no rfl h) (fun h3 => ?_)
  refine Eq.trans (rr_invV0v (S' := []) (L' := [some (.inr (.inr (am_get ω l0.toNat 6))), some (.inr (.inr (am_get ω (am_get ω (am_get ω l0.toNat 0).toNat 4).toNat l3.toNat)))]) (m' := (47, 0)) rfl rfl rfl rfl rfl rfl h4) ?_
  refine bv_cg (fun ω1 => ?_)
  refine Eq.trans (rr_aload_n rfl rfl) ?_
  refine ck_it (fun h => rr_getfr rfl rfl rfl h) (fun h => rr_getfield_no rfl rfl h) (fun h5 => ?_)
  refine Eq.trans (rr_aload_n rfl rfl) ?_
  refine Eq.trans (rr_getfr rfl rfl rfl h5) ?_
  refine ck_it (fun h => rr_getfr rfl rfl rfl h) (fun h => rr_getfield_no rfl rfl h) (fun h6 => ?_)
  refine Eq.trans (rr_iload rfl rfl) ?_
  refine ck_it (fun h => rr_aaload rfl h) (fun h => rr_aaload_no rfl h) (fun h7 => ?_)
  refine ck_it (fun h => rr_invV0v (S' := []) (L' := [some (.inr (.inr (am_get ω1 l0.toNat 7))), some (.inr (.inr (am_get ω1 (am_get ω1 (am_get ω1 l0.toNat 0).toNat 4).toNat l4.toNat)))]) (m' := (47, 0)) rfl rfl rfl rfl rfl rfl h) (fun h => rr_invV0_no (S' := []) (L' := [some (.inr (.inr (am_get ω1 l0.toNat 7))), some (.inr (.inr (am_get ω1 (am_get ω1 (am_get ω1 l0.toNat 0).toNat 4).toNat l4.toNat)))]) (m' := (47, 0)) rfl rfl rfl rfl rfl rfl h) (fun h8 => ?_)
  refine bv_cg (fun ω2 => ?_)
  refine Eq.trans (rr_iconst rfl rfl) ?_
  refine Eq.trans (rr_istore (L' := [some (.inr (.inr l0)), some (.inr (.inr l1)), some (.inl l2), some (.inl l3), some (.inl l4), some (.inl 0)]) rfl rfl) ?_
  rfl
theorem pX6_firstMeeting_36 (l0 l1 l2 l3 l4 l5 : Int) (ω : am_W) (h1 : am_is ω l0 (6, 10) = true) (h2 : am_is ω (am_get ω l0.toNat 6) (4, 5) = true) (h3 : am_is ω l1 (2, 3) = true) : am_run (134, 0) 36 ([some (.inr (.inr l0)), some (.inr (.inr l1)), some (.inl l2), some (.inl l3), some (.inl l4), some (.inl l5)], [], ω) = if l2 ≤ l5 then (am_bi (am_run (48, 0) 0 ([some (.inr (.inr (am_get ω l0.toNat 6))), some (.inr (.inr (am_get ω l0.toNat 7)))], [], ω)) (fun z1 ω1 => if z1 = 0 then (some (some (.inl ((-1))), ω1)) else (some (some (.inl l2), ω1)))) else (if (am_get ω l1.toNat 1) ≤ l5 then (am_bi (am_run (48, 0) 0 ([some (.inr (.inr (am_get ω l0.toNat 6))), some (.inr (.inr (am_get ω l0.toNat 7)))], [], ω)) (fun z2 ω2 => if z2 = 0 then (some (some (.inl ((-1))), ω2)) else (some (some (.inl l2), ω2)))) else (am_bi (am_run (48, 0) 0 ([some (.inr (.inr (am_get ω l0.toNat 6))), some (.inr (.inr (am_get ω l0.toNat 7)))], [], ω)) (fun z3 ω3 => if z3 = 0 then (if am_is ω3 l0 (6, 10) = true then (if am_is ω3 l1 (2, 3) = true then (if am_in ω3 (am_get ω3 l1.toNat 2) 101 l5 = true then (if am_is ω3 (am_get ω3 l0.toNat 0) (5, 8) = true then (am_bi (am_run (76, 0) 0 ([some (.inr (.inr (am_get ω3 l0.toNat 0))), some (.inr (.inr (am_get ω3 l0.toNat 6))), some (.inr (.inl (am_get ω3 (am_get ω3 l1.toNat 2).toNat l5.toNat))), none, none], [], ω3)) (fun z4 ω4 => if am_is ω4 l0 (6, 10) = true then (if am_is ω4 (am_get ω4 l0.toNat 0) (5, 8) = true then (am_bv (am_run (74, 0) 0 ([some (.inr (.inr (am_get ω4 l0.toNat 0))), some (.inr (.inr (am_get ω4 l0.toNat 7)))], [], ω4)) (fun ω5 => am_run (134, 0) 36 ([some (.inr (.inr l0)), some (.inr (.inr l1)), some (.inl l2), some (.inl l3), some (.inl l4), some (.inl (am_w (l5 + 1)))], [], ω5))) else none) else none)) else none) else none) else none) else none) else (some (some (.inl l5), ω3))))) := by
  refine Eq.trans (rr_iload rfl rfl) ?_
  refine Eq.trans (rr_iload_n rfl rfl) ?_
  refine Eq.trans (rr_icmp_ge rfl rfl) (it_cg (fun _ => ?_) (fun _ => ?_))
  · refine Eq.trans (rr_aload_n rfl rfl) ?_
    refine Eq.trans (rr_getfr rfl rfl rfl h1) ?_
    refine Eq.trans (rr_aload_n rfl rfl) ?_
    refine Eq.trans (rr_getfr rfl rfl rfl h1) ?_
    refine Eq.trans (rr_invV0i (S' := []) (L' := [some (.inr (.inr (am_get ω l0.toNat 6))), some (.inr (.inr (am_get ω l0.toNat 7)))]) (m' := (48, 0)) rfl rfl rfl rfl rfl rfl h2) ?_
    refine bi_cg (fun z1 ω1 => ?_)
    refine Eq.trans (rr_if_eq rfl rfl) (it_cg (fun _ => ?_) (fun _ => ?_))
    · refine Eq.trans (rr_iconst rfl rfl) ?_
      exact rr_ireturn rfl rfl
    · refine Eq.trans (rr_iload_n rfl rfl) ?_
      refine Eq.trans (rr_goto rfl rfl) ?_
      exact rr_ireturn rfl rfl
  · refine Eq.trans (rr_iload rfl rfl) ?_
    refine Eq.trans (rr_aload_n rfl rfl) ?_
    refine Eq.trans (rr_getfi rfl rfl rfl h3) ?_
    refine Eq.trans (rr_icmp_ge rfl rfl) (it_cg (fun _ => ?_) (fun _ => ?_))
    · refine Eq.trans (rr_aload_n rfl rfl) ?_
      refine Eq.trans (rr_getfr rfl rfl rfl h1) ?_
      refine Eq.trans (rr_aload_n rfl rfl) ?_
      refine Eq.trans (rr_getfr rfl rfl rfl h1) ?_
      refine Eq.trans (rr_invV0i (S' := []) (L' := [some (.inr (.inr (am_get ω l0.toNat 6))), some (.inr (.inr (am_get ω l0.toNat 7)))]) (m' := (48, 0)) rfl rfl rfl rfl rfl rfl h2) ?_
      refine bi_cg (fun z2 ω2 => ?_)
      refine Eq.trans (rr_if_eq rfl rfl) (it_cg (fun _ => ?_) (fun _ => ?_))
      · refine Eq.trans (rr_iconst rfl rfl) ?_
        exact rr_ireturn rfl rfl
      · refine Eq.trans (rr_iload_n rfl rfl) ?_
        refine Eq.trans (rr_goto rfl rfl) ?_
        exact rr_ireturn rfl rfl
    · refine Eq.trans (rr_aload_n rfl rfl) ?_
      refine Eq.trans (rr_getfr rfl rfl rfl h1) ?_
      refine Eq.trans (rr_aload_n rfl rfl) ?_
      refine Eq.trans (rr_getfr rfl rfl rfl h1) ?_
      refine Eq.trans (rr_invV0i (S' := []) (L' := [some (.inr (.inr (am_get ω l0.toNat 6))), some (.inr (.inr (am_get ω l0.toNat 7)))]) (m' := (48, 0)) rfl rfl rfl rfl rfl rfl h2) ?_
      refine bi_cg (fun z3 ω3 => ?_)
      refine Eq.trans (rr_if_eq rfl rfl) (it_cg (fun _ => ?_) (fun _ => ?_))
      · refine Eq.trans (rr_aload_n rfl rfl) ?_
        refine ck_it (fun h => rr_getfr rfl rfl rfl h) (fun h => rr_getfield_no rfl rfl h) (fun h4 => ?_)
        refine Eq.trans (rr_aload_n rfl rfl) ?_
        refine Eq.trans (rr_getfr rfl rfl rfl h4) ?_
        refine Eq.trans (rr_aload_n rfl rfl) ?_
        refine ck_it (fun h => rr_getfr rfl rfl rfl h) (fun h => rr_getfield_no rfl rfl h) (fun h5 => ?_)
        refine Eq.trans (rr_iload rfl rfl) ?_
        refine ck_it (fun h => rr_laload rfl h) (fun h => rr_laload_no rfl h) (fun h6 => ?_)
        refine ck_it (fun h => rr_invV0i (S' := []) (L' := [some (.inr (.inr (am_get ω3 l0.toNat 0))), some (.inr (.inr (am_get ω3 l0.toNat 6))), some (.inr (.inl (am_get ω3 (am_get ω3 l1.toNat 2).toNat l5.toNat))), none, none]) (m' := (76, 0)) rfl rfl rfl rfl rfl rfl h) (fun h => rr_invV0_no (S' := []) (L' := [some (.inr (.inr (am_get ω3 l0.toNat 0))), some (.inr (.inr (am_get ω3 l0.toNat 6))), some (.inr (.inl (am_get ω3 (am_get ω3 l1.toNat 2).toNat l5.toNat))), none, none]) (m' := (76, 0)) rfl rfl rfl rfl rfl rfl h) (fun h7 => ?_)
        refine bi_cg (fun z4 ω4 => ?_)
        refine Eq.trans (rr_popi rfl) ?_
        refine Eq.trans (rr_aload_n rfl rfl) ?_
        refine ck_it (fun h => rr_getfr rfl rfl rfl h) (fun h => rr_getfield_no rfl rfl h) (fun h8 => ?_)
        refine Eq.trans (rr_aload_n rfl rfl) ?_
        refine Eq.trans (rr_getfr rfl rfl rfl h8) ?_
        refine ck_it (fun h => rr_invV0v (S' := []) (L' := [some (.inr (.inr (am_get ω4 l0.toNat 0))), some (.inr (.inr (am_get ω4 l0.toNat 7)))]) (m' := (74, 0)) rfl rfl rfl rfl rfl rfl h) (fun h => rr_invV0_no (S' := []) (L' := [some (.inr (.inr (am_get ω4 l0.toNat 0))), some (.inr (.inr (am_get ω4 l0.toNat 7)))]) (m' := (74, 0)) rfl rfl rfl rfl rfl rfl h) (fun h9 => ?_)
        refine bv_cg (fun ω5 => ?_)
        refine Eq.trans (rr_iinc (L' := [some (.inr (.inr l0)), some (.inr (.inr l1)), some (.inl l2), some (.inl l3), some (.inl l4), some (.inl (am_w (l5 + 1)))]) rfl rfl rfl) ?_
        refine Eq.trans (rr_goto rfl rfl) ?_
        rfl
      · refine Eq.trans (rr_iload rfl rfl) ?_
        exact rr_ireturn rfl rfl
theorem pX6_queueAt_0 (l0 l1 l2 : Int) (ω : am_W) (h1 : am_is ω l0 (6, 10) = true) (h2 : am_is ω (am_get ω l0.toNat 0) (5, 8) = true) : am_run (135, 0) 0 ([some (.inr (.inr l0)), some (.inl l1), some (.inl l2), none, none, none, none, none, none, none], [], ω) = if am_ina ω (am_get ω (am_get ω l0.toNat 0).toNat 4) l1 = true then (if am_is ω (am_get ω (am_get ω (am_get ω l0.toNat 0).toNat 4).toNat l1.toNat) (4, 5) = true then (am_bi (am_run (61, 0) 0 ([some (.inr (.inr (am_get ω l0.toNat 0))), some (.inl (am_get ω (am_get ω (am_get ω (am_get ω l0.toNat 0).toNat 4).toNat l1.toNat).toNat 1))], [], ω)) (fun z1 ω1 => if am_is ω1 l0 (6, 10) = true then (if am_is ω1 (am_get ω (am_get ω (am_get ω l0.toNat 0).toNat 4).toNat l1.toNat) (4, 5) = true then (if am_is ω1 (am_get ω1 l0.toNat 0) (5, 8) = true then (am_bi (am_run (66, 0) 0 ([some (.inr (.inr (am_get ω1 l0.toNat 0))), some (.inl (am_get ω1 (am_get ω (am_get ω (am_get ω l0.toNat 0).toNat 4).toNat l1.toNat).toNat 1))], [], ω1)) (fun z2 ω2 => am_run (135, 0) 42 ([some (.inr (.inr l0)), some (.inl l1), some (.inl l2), some (.inr (.inr (am_get ω (am_get ω (am_get ω l0.toNat 0).toNat 4).toNat l1.toNat))), some (.inl z1), some (.inl z2), some (.inl 0), some (.inl 0), none, none], [], ω2))) else none) else none) else none)) else none) else none := by
  refine Eq.trans (rr_aload_n rfl rfl) ?_
  refine Eq.trans (rr_getfr rfl rfl rfl h1) ?_
  refine Eq.trans (rr_getfr rfl rfl rfl h2) ?_
  refine Eq.trans (rr_iload_n rfl rfl) ?_
  refine ck_it (fun h => rr_aaload rfl h) (fun h => rr_aaload_no rfl h) (fun h3 => ?_)
  refine Eq.trans (rr_astore_n (L' := [some (.inr (.inr l0)), some (.inl l1), some (.inl l2), some (.inr (.inr (am_get ω (am_get ω (am_get ω l0.toNat 0).toNat 4).toNat l1.toNat))), none, none, none, none, none, none]) rfl rfl) ?_
  refine Eq.trans (rr_aload_n rfl rfl) ?_
  refine Eq.trans (rr_getfr rfl rfl rfl h1) ?_
  refine Eq.trans (rr_aload_n rfl rfl) ?_
  refine ck_it (fun h => rr_getfi rfl rfl rfl h) (fun h => rr_getfield_no rfl rfl h) (fun h4 => ?_)
  refine Eq.trans (rr_invV0i (S' := []) (L' := [some (.inr (.inr (am_get ω l0.toNat 0))), some (.inl (am_get ω (am_get ω (am_get ω (am_get ω l0.toNat 0).toNat 4).toNat l1.toNat).toNat 1))]) (m' := (61, 0)) rfl rfl rfl rfl rfl rfl h2) ?_
  refine bi_cg (fun z1 ω1 => ?_)
  refine Eq.trans (rr_istore (L' := [some (.inr (.inr l0)), some (.inl l1), some (.inl l2), some (.inr (.inr (am_get ω (am_get ω (am_get ω l0.toNat 0).toNat 4).toNat l1.toNat))), some (.inl z1), none, none, none, none, none]) rfl rfl) ?_
  refine Eq.trans (rr_aload_n rfl rfl) ?_
  refine ck_it (fun h => rr_getfr rfl rfl rfl h) (fun h => rr_getfield_no rfl rfl h) (fun h5 => ?_)
  refine Eq.trans (rr_aload_n rfl rfl) ?_
  refine ck_it (fun h => rr_getfi rfl rfl rfl h) (fun h => rr_getfield_no rfl rfl h) (fun h6 => ?_)
  refine ck_it (fun h => rr_invV0i (S' := []) (L' := [some (.inr (.inr (am_get ω1 l0.toNat 0))), some (.inl (am_get ω1 (am_get ω (am_get ω (am_get ω l0.toNat 0).toNat 4).toNat l1.toNat).toNat 1))]) (m' := (66, 0)) rfl rfl rfl rfl rfl rfl h) (fun h => rr_invV0_no (S' := []) (L' := [some (.inr (.inr (am_get ω1 l0.toNat 0))), some (.inl (am_get ω1 (am_get ω (am_get ω (am_get ω l0.toNat 0).toNat 4).toNat l1.toNat).toNat 1))]) (m' := (66, 0)) rfl rfl rfl rfl rfl rfl h) (fun h7 => ?_)
  refine bi_cg (fun z2 ω2 => ?_)
  refine Eq.trans (rr_istore (L' := [some (.inr (.inr l0)), some (.inl l1), some (.inl l2), some (.inr (.inr (am_get ω (am_get ω (am_get ω l0.toNat 0).toNat 4).toNat l1.toNat))), some (.inl z1), some (.inl z2), none, none, none, none]) rfl rfl) ?_
  refine Eq.trans (rr_iconst rfl rfl) ?_
  refine Eq.trans (rr_istore (L' := [some (.inr (.inr l0)), some (.inl l1), some (.inl l2), some (.inr (.inr (am_get ω (am_get ω (am_get ω l0.toNat 0).toNat 4).toNat l1.toNat))), some (.inl z1), some (.inl z2), some (.inl 0), none, none, none]) rfl rfl) ?_
  refine Eq.trans (rr_iconst rfl rfl) ?_
  refine Eq.trans (rr_istore (L' := [some (.inr (.inr l0)), some (.inl l1), some (.inl l2), some (.inr (.inr (am_get ω (am_get ω (am_get ω l0.toNat 0).toNat 4).toNat l1.toNat))), some (.inl z1), some (.inl z2), some (.inl 0), some (.inl 0), none, none]) rfl rfl) ?_
  rfl
theorem pX6_queueAt_42 (l0 l1 l2 l3 l4 l5 l6 l7 : Int) (o8 o9 : Option am_V) (ω : am_W) (h1 : am_is ω l0 (6, 10) = true) (h2 : am_is ω (am_get ω l0.toNat 0) (5, 8) = true) (h5 : am_is ω l3 (4, 5) = true) : am_run (135, 0) 42 ([some (.inr (.inr l0)), some (.inl l1), some (.inl l2), some (.inr (.inr l3)), some (.inl l4), some (.inl l5), some (.inl l6), some (.inl l7), o8, o9], [], ω) = if (am_get ω (am_get ω l0.toNat 0).toNat 3) ≤ l7 then (some (some (.inl l6), ω)) else (if am_ina ω (am_get ω (am_get ω l0.toNat 0).toNat 4) l7 = true then (if am_is ω (am_get ω (am_get ω (am_get ω l0.toNat 0).toNat 4).toNat l7.toNat) (4, 5) = true then (am_bi (am_run (235, 0) 0 ([some (.inl (am_w ((am_get ω (am_get ω (am_get ω (am_get ω l0.toNat 0).toNat 4).toNat l7.toNat).toNat 2) - (am_get ω l3.toNat 2))))], [], ω)) (fun z1 ω1 => am_bi (am_run (237, 0) 0 ([some (.inl z1), some (.inl (am_w (l4 - z1)))], [], ω1)) (fun z2 ω2 => if l2 ≤ z2 then (am_run (135, 0) 96 ([some (.inr (.inr l0)), some (.inl l1), some (.inl l2), some (.inr (.inr l3)), some (.inl l4), some (.inl l5), some (.inl l6), some (.inl l7), some (.inl z1), o9], [.inl 0], ω2)) else (am_run (135, 0) 96 ([some (.inr (.inr l0)), some (.inl l1), some (.inl l2), some (.inr (.inr l3)), some (.inl l4), some (.inl l5), some (.inl l6), some (.inl l7), some (.inl z1), o9], [.inl 1], ω2))))) else none) else none) := by
  refine Eq.trans (rr_iload rfl rfl) ?_
  refine Eq.trans (rr_aload_n rfl rfl) ?_
  refine Eq.trans (rr_getfr rfl rfl rfl h1) ?_
  refine Eq.trans (rr_getfi rfl rfl rfl h2) ?_
  refine Eq.trans (rr_icmp_ge rfl rfl) (it_cg (fun _ => ?_) (fun _ => ?_))
  · refine Eq.trans (rr_iload rfl rfl) ?_
    exact rr_ireturn rfl rfl
  · refine Eq.trans (rr_aload_n rfl rfl) ?_
    refine Eq.trans (rr_getfr rfl rfl rfl h1) ?_
    refine Eq.trans (rr_getfr rfl rfl rfl h2) ?_
    refine Eq.trans (rr_iload rfl rfl) ?_
    refine ck_it (fun h => rr_aaload rfl h) (fun h => rr_aaload_no rfl h) (fun h3 => ?_)
    refine ck_it (fun h => rr_getfi rfl rfl rfl h) (fun h => rr_getfield_no rfl rfl h) (fun h4 => ?_)
    refine Eq.trans (rr_aload_n rfl rfl) ?_
    refine Eq.trans (rr_getfi rfl rfl rfl h5) ?_
    refine Eq.trans (rr_isub rfl) ?_
    refine Eq.trans (rr_invS2i (S' := []) (L' := [some (.inl (am_w ((am_get ω (am_get ω (am_get ω (am_get ω l0.toNat 0).toNat 4).toNat l7.toNat).toNat 2) - (am_get ω l3.toNat 2))))]) (m' := (235, 0)) rfl rfl rfl rfl rfl rfl) ?_
    refine bi_cg (fun z1 ω1 => ?_)
    refine Eq.trans (rr_istore (L' := [some (.inr (.inr l0)), some (.inl l1), some (.inl l2), some (.inr (.inr l3)), some (.inl l4), some (.inl l5), some (.inl l6), some (.inl l7), some (.inl z1), o9]) rfl rfl) ?_
    refine Eq.trans (rr_iload rfl rfl) ?_
    refine Eq.trans (rr_iload rfl rfl) ?_
    refine Eq.trans (rr_iload rfl rfl) ?_
    refine Eq.trans (rr_isub rfl) ?_
    refine Eq.trans (rr_invS2i (S' := []) (L' := [some (.inl z1), some (.inl (am_w (l4 - z1)))]) (m' := (237, 0)) rfl rfl rfl rfl rfl rfl) ?_
    refine bi_cg (fun z2 ω2 => ?_)
    refine Eq.trans (rr_iload_n rfl rfl) ?_
    refine Eq.trans (rr_icmp_ge rfl rfl) (it_cg (fun _ => ?_) (fun _ => ?_))
    · refine Eq.trans (rr_iconst rfl rfl) ?_
      rfl
    · refine Eq.trans (rr_iconst rfl rfl) ?_
      refine Eq.trans (rr_goto rfl rfl) ?_
      rfl
theorem pX6_queueAt_96 (l0 l1 l2 l3 l4 l5 l6 l7 l8 s0 : Int) (o9 : Option am_V) (ω : am_W) : am_run (135, 0) 96 ([some (.inr (.inr l0)), some (.inl l1), some (.inl l2), some (.inr (.inr l3)), some (.inl l4), some (.inl l5), some (.inl l6), some (.inl l7), some (.inl l8), o9], [.inl s0], ω) = if l7 = l1 then (am_run (135, 0) 42 ([some (.inr (.inr l0)), some (.inl l1), some (.inl l2), some (.inr (.inr l3)), some (.inl l4), some (.inl l5), some (.inl l6), some (.inl (am_w (l7 + 1))), some (.inl l8), some (.inl s0)], [], ω)) else (if (am_and l5 (am_shl 1 l7)) = 0 then (am_run (135, 0) 42 ([some (.inr (.inr l0)), some (.inl l1), some (.inl l2), some (.inr (.inr l3)), some (.inl l4), some (.inl l5), some (.inl l6), some (.inl (am_w (l7 + 1))), some (.inl l8), some (.inl s0)], [], ω)) else (if s0 = 0 then (am_run (135, 0) 42 ([some (.inr (.inr l0)), some (.inl l1), some (.inl l2), some (.inr (.inr l3)), some (.inl l4), some (.inl l5), some (.inl l6), some (.inl (am_w (l7 + 1))), some (.inl l8), some (.inl s0)], [], ω)) else (am_run (135, 0) 42 ([some (.inr (.inr l0)), some (.inl l1), some (.inl l2), some (.inr (.inr l3)), some (.inl l4), some (.inl l5), some (.inl (am_or l6 (am_shl 1 l7))), some (.inl (am_w (l7 + 1))), some (.inl l8), some (.inl s0)], [], ω)))) := by
  refine Eq.trans (rr_istore (L' := [some (.inr (.inr l0)), some (.inl l1), some (.inl l2), some (.inr (.inr l3)), some (.inl l4), some (.inl l5), some (.inl l6), some (.inl l7), some (.inl l8), some (.inl s0)]) rfl rfl) ?_
  refine Eq.trans (rr_iload rfl rfl) ?_
  refine Eq.trans (rr_iload_n rfl rfl) ?_
  refine Eq.trans (rr_icmp_eq rfl rfl) (it_cg (fun _ => ?_) (fun _ => ?_))
  · refine Eq.trans (rr_iinc (L' := [some (.inr (.inr l0)), some (.inl l1), some (.inl l2), some (.inr (.inr l3)), some (.inl l4), some (.inl l5), some (.inl l6), some (.inl (am_w (l7 + 1))), some (.inl l8), some (.inl s0)]) rfl rfl rfl) ?_
    refine Eq.trans (rr_goto rfl rfl) ?_
    rfl
  · refine Eq.trans (rr_iload rfl rfl) ?_
    refine Eq.trans (rr_iconst rfl rfl) ?_
    refine Eq.trans (rr_iload rfl rfl) ?_
    refine Eq.trans (rr_ishl rfl) ?_
    refine Eq.trans (rr_iand rfl) ?_
    refine Eq.trans (rr_if_eq rfl rfl) (it_cg (fun _ => ?_) (fun _ => ?_))
    · refine Eq.trans (rr_iinc (L' := [some (.inr (.inr l0)), some (.inl l1), some (.inl l2), some (.inr (.inr l3)), some (.inl l4), some (.inl l5), some (.inl l6), some (.inl (am_w (l7 + 1))), some (.inl l8), some (.inl s0)]) rfl rfl rfl) ?_
      refine Eq.trans (rr_goto rfl rfl) ?_
      rfl
    · refine Eq.trans (rr_iload rfl rfl) ?_
      refine Eq.trans (rr_if_eq rfl rfl) (it_cg (fun _ => ?_) (fun _ => ?_))
      · refine Eq.trans (rr_iinc (L' := [some (.inr (.inr l0)), some (.inl l1), some (.inl l2), some (.inr (.inr l3)), some (.inl l4), some (.inl l5), some (.inl l6), some (.inl (am_w (l7 + 1))), some (.inl l8), some (.inl s0)]) rfl rfl rfl) ?_
        refine Eq.trans (rr_goto rfl rfl) ?_
        rfl
      · refine Eq.trans (rr_iload rfl rfl) ?_
        refine Eq.trans (rr_iconst rfl rfl) ?_
        refine Eq.trans (rr_iload rfl rfl) ?_
        refine Eq.trans (rr_ishl rfl) ?_
        refine Eq.trans (rr_ior rfl) ?_
        refine Eq.trans (rr_istore (L' := [some (.inr (.inr l0)), some (.inl l1), some (.inl l2), some (.inr (.inr l3)), some (.inl l4), some (.inl l5), some (.inl (am_or l6 (am_shl 1 l7))), some (.inl l7), some (.inl l8), some (.inl s0)]) rfl rfl) ?_
        refine Eq.trans (rr_iinc (L' := [some (.inr (.inr l0)), some (.inl l1), some (.inl l2), some (.inr (.inr l3)), some (.inl l4), some (.inl l5), some (.inl (am_or l6 (am_shl 1 l7))), some (.inl (am_w (l7 + 1))), some (.inl l8), some (.inl s0)]) rfl rfl rfl) ?_
        refine Eq.trans (rr_goto rfl rfl) ?_
        rfl
theorem pX6_areSightings_0 (l0 l1 l2 : Int) (ω : am_W) : am_run (136, 0) 0 ([some (.inr (.inr l0)), some (.inr (.inr l1)), some (.inl l2), none, none, none, none, none, none, none, none, none], [], ω) = am_run (136, 0) 5 ([some (.inr (.inr l0)), some (.inr (.inr l1)), some (.inl l2), some (.inr (.inl 0)), none, some (.inl 0), none, none, none, none, none, none], [], ω) := by
  refine Eq.trans (rr_lconst rfl) ?_
  refine Eq.trans (rr_lstore_n (L' := [some (.inr (.inr l0)), some (.inr (.inr l1)), some (.inl l2), some (.inr (.inl 0)), none, none, none, none, none, none, none, none]) rfl rfl) ?_
  refine Eq.trans (rr_iconst rfl rfl) ?_
  refine Eq.trans (rr_istore (L' := [some (.inr (.inr l0)), some (.inr (.inr l1)), some (.inl l2), some (.inr (.inl 0)), none, some (.inl 0), none, none, none, none, none, none]) rfl rfl) ?_
  rfl
theorem pX6_areSightings_5 (l0 l1 l2 l3 l5 : Int) (o6 o8 o10 o7 o9 o11 : Option am_V) (ω : am_W) (h1 : am_is ω l1 (2, 3) = true) (h5 : am_is ω l0 (6, 10) = true) (h6 : am_is ω (am_get ω l0.toNat 0) (5, 8) = true) : am_run (136, 0) 5 ([some (.inr (.inr l0)), some (.inr (.inr l1)), some (.inl l2), some (.inr (.inl l3)), none, some (.inl l5), o6, o7, o8, o9, o10, o11], [], ω) = if l2 ≤ l5 then (some (some (.inl 1), ω)) else (if (am_get ω l1.toNat 1) ≤ (am_w ((am_w (3 * l5)) + 2)) then (some (some (.inl 1), ω)) else (if am_in ω (am_get ω l1.toNat 2) 101 (am_w (3 * l5)) = true then (if am_in ω (am_get ω l1.toNat 2) 101 (am_w ((am_w (3 * l5)) + 1)) = true then (if am_in ω (am_get ω l1.toNat 2) 101 (am_w ((am_w (3 * l5)) + 2)) = true then (if (am_cmp (am_get ω (am_get ω l1.toNat 2).toNat (am_w (3 * l5)).toNat) l3) < 0 then (some (some (.inl 0), ω)) else (if 0 < (am_cmp (am_get ω (am_get ω l1.toNat 2).toNat (am_w (3 * l5)).toNat) 60) then (some (some (.inl 0), ω)) else (if (am_cmp (am_get ω (am_get ω l1.toNat 2).toNat (am_w ((am_w (3 * l5)) + 1)).toNat) 0) < 0 then (some (some (.inl 0), ω)) else (if (am_cmp (am_get ω (am_get ω l1.toNat 2).toNat (am_w ((am_w (3 * l5)) + 1)).toNat) (am_get ω (am_get ω l0.toNat 0).toNat 0)) < 0 then (if (am_cmp (am_get ω (am_get ω l1.toNat 2).toNat (am_w ((am_w (3 * l5)) + 2)).toNat) 0) < 0 then (some (some (.inl 0), ω)) else (am_bi (am_run (61, 0) 0 ([some (.inr (.inr (am_get ω l0.toNat 0))), some (.inl (am_w (am_get ω (am_get ω l1.toNat 2).toNat (am_w ((am_w (3 * l5)) + 1)).toNat)))], [], ω)) (fun z1 ω1 => if (am_cmp (am_get ω (am_get ω l1.toNat 2).toNat (am_w ((am_w (3 * l5)) + 2)).toNat) z1) < 0 then (am_run (136, 0) 5 ([some (.inr (.inr l0)), some (.inr (.inr l1)), some (.inl l2), some (.inr (.inl (am_get ω (am_get ω l1.toNat 2).toNat (am_w (3 * l5)).toNat))), none, some (.inl (am_w (l5 + 1))), some (.inr (.inl (am_get ω (am_get ω l1.toNat 2).toNat (am_w (3 * l5)).toNat))), none, some (.inr (.inl (am_get ω (am_get ω l1.toNat 2).toNat (am_w ((am_w (3 * l5)) + 1)).toNat))), none, some (.inr (.inl (am_get ω (am_get ω l1.toNat 2).toNat (am_w ((am_w (3 * l5)) + 2)).toNat))), none], [], ω1)) else (some (some (.inl 0), ω1))))) else (some (some (.inl 0), ω)))))) else none) else none) else none)) := by
  refine Eq.trans (rr_iload rfl rfl) ?_
  refine Eq.trans (rr_iload_n rfl rfl) ?_
  refine Eq.trans (rr_icmp_ge rfl rfl) (it_cg (fun _ => ?_) (fun _ => ?_))
  · refine Eq.trans (rr_iconst rfl rfl) ?_
    exact rr_ireturn rfl rfl
  · refine Eq.trans (rr_iconst rfl rfl) ?_
    refine Eq.trans (rr_iload rfl rfl) ?_
    refine Eq.trans (rr_imul rfl) ?_
    refine Eq.trans (rr_iconst rfl rfl) ?_
    refine Eq.trans (rr_iadd rfl) ?_
    refine Eq.trans (rr_aload_n rfl rfl) ?_
    refine Eq.trans (rr_getfi rfl rfl rfl h1) ?_
    refine Eq.trans (rr_icmp_ge rfl rfl) (it_cg (fun _ => ?_) (fun _ => ?_))
    · refine Eq.trans (rr_iconst rfl rfl) ?_
      exact rr_ireturn rfl rfl
    · refine Eq.trans (rr_aload_n rfl rfl) ?_
      refine Eq.trans (rr_getfr rfl rfl rfl h1) ?_
      refine Eq.trans (rr_iconst rfl rfl) ?_
      refine Eq.trans (rr_iload rfl rfl) ?_
      refine Eq.trans (rr_imul rfl) ?_
      refine ck_it (fun h => rr_laload rfl h) (fun h => rr_laload_no rfl h) (fun h2 => ?_)
      refine Eq.trans (rr_lstore (L' := [some (.inr (.inr l0)), some (.inr (.inr l1)), some (.inl l2), some (.inr (.inl l3)), none, some (.inl l5), some (.inr (.inl (am_get ω (am_get ω l1.toNat 2).toNat (am_w (3 * l5)).toNat))), none, o8, o9, o10, o11]) rfl rfl) ?_
      refine Eq.trans (rr_aload_n rfl rfl) ?_
      refine Eq.trans (rr_getfr rfl rfl rfl h1) ?_
      refine Eq.trans (rr_iconst rfl rfl) ?_
      refine Eq.trans (rr_iload rfl rfl) ?_
      refine Eq.trans (rr_imul rfl) ?_
      refine Eq.trans (rr_iconst rfl rfl) ?_
      refine Eq.trans (rr_iadd rfl) ?_
      refine ck_it (fun h => rr_laload rfl h) (fun h => rr_laload_no rfl h) (fun h3 => ?_)
      refine Eq.trans (rr_lstore (L' := [some (.inr (.inr l0)), some (.inr (.inr l1)), some (.inl l2), some (.inr (.inl l3)), none, some (.inl l5), some (.inr (.inl (am_get ω (am_get ω l1.toNat 2).toNat (am_w (3 * l5)).toNat))), none, some (.inr (.inl (am_get ω (am_get ω l1.toNat 2).toNat (am_w ((am_w (3 * l5)) + 1)).toNat))), none, o10, o11]) rfl rfl) ?_
      refine Eq.trans (rr_aload_n rfl rfl) ?_
      refine Eq.trans (rr_getfr rfl rfl rfl h1) ?_
      refine Eq.trans (rr_iconst rfl rfl) ?_
      refine Eq.trans (rr_iload rfl rfl) ?_
      refine Eq.trans (rr_imul rfl) ?_
      refine Eq.trans (rr_iconst rfl rfl) ?_
      refine Eq.trans (rr_iadd rfl) ?_
      refine ck_it (fun h => rr_laload rfl h) (fun h => rr_laload_no rfl h) (fun h4 => ?_)
      refine Eq.trans (rr_lstore (L' := [some (.inr (.inr l0)), some (.inr (.inr l1)), some (.inl l2), some (.inr (.inl l3)), none, some (.inl l5), some (.inr (.inl (am_get ω (am_get ω l1.toNat 2).toNat (am_w (3 * l5)).toNat))), none, some (.inr (.inl (am_get ω (am_get ω l1.toNat 2).toNat (am_w ((am_w (3 * l5)) + 1)).toNat))), none, some (.inr (.inl (am_get ω (am_get ω l1.toNat 2).toNat (am_w ((am_w (3 * l5)) + 2)).toNat))), none]) rfl rfl) ?_
      refine Eq.trans (rr_lload rfl rfl) ?_
      refine Eq.trans (rr_lload_n rfl rfl) ?_
      refine Eq.trans (rr_lcmp rfl) ?_
      refine Eq.trans (rr_if_lt rfl rfl) (it_cg (fun _ => ?_) (fun _ => ?_))
      · refine Eq.trans (rr_iconst rfl rfl) ?_
        exact rr_ireturn rfl rfl
      · refine Eq.trans (rr_lload rfl rfl) ?_
        refine Eq.trans (rr_ldc2 rfl rfl) ?_
        refine Eq.trans (rr_lcmp rfl) ?_
        refine Eq.trans (rr_if_gt rfl rfl) (it_cg (fun _ => ?_) (fun _ => ?_))
        · refine Eq.trans (rr_iconst rfl rfl) ?_
          exact rr_ireturn rfl rfl
        · refine Eq.trans (rr_lload rfl rfl) ?_
          refine Eq.trans (rr_lconst rfl) ?_
          refine Eq.trans (rr_lcmp rfl) ?_
          refine Eq.trans (rr_if_lt rfl rfl) (it_cg (fun _ => ?_) (fun _ => ?_))
          · refine Eq.trans (rr_iconst rfl rfl) ?_
            exact rr_ireturn rfl rfl
          · refine Eq.trans (rr_lload rfl rfl) ?_
            refine Eq.trans (rr_aload_n rfl rfl) ?_
            refine Eq.trans (rr_getfr rfl rfl rfl h5) ?_
            refine Eq.trans (rr_getfi rfl rfl rfl h6) ?_
            refine Eq.trans (rr_i2l rfl) ?_
            refine Eq.trans (rr_lcmp rfl) ?_
            refine Eq.trans (rr_if_lt rfl rfl) (it_cg (fun _ => ?_) (fun _ => ?_))
            · refine Eq.trans (rr_lload rfl rfl) ?_
              refine Eq.trans (rr_lconst rfl) ?_
              refine Eq.trans (rr_lcmp rfl) ?_
              refine Eq.trans (rr_if_lt rfl rfl) (it_cg (fun _ => ?_) (fun _ => ?_))
              · refine Eq.trans (rr_iconst rfl rfl) ?_
                exact rr_ireturn rfl rfl
              · refine Eq.trans (rr_lload rfl rfl) ?_
                refine Eq.trans (rr_aload_n rfl rfl) ?_
                refine Eq.trans (rr_getfr rfl rfl rfl h5) ?_
                refine Eq.trans (rr_lload rfl rfl) ?_
                refine Eq.trans (rr_l2i rfl) ?_
                refine Eq.trans (rr_invV0i (S' := [.inr (.inl (am_get ω (am_get ω l1.toNat 2).toNat (am_w ((am_w (3 * l5)) + 2)).toNat))]) (L' := [some (.inr (.inr (am_get ω l0.toNat 0))), some (.inl (am_w (am_get ω (am_get ω l1.toNat 2).toNat (am_w ((am_w (3 * l5)) + 1)).toNat)))]) (m' := (61, 0)) rfl rfl rfl rfl rfl rfl h6) ?_
                refine bi_cg (fun z1 ω1 => ?_)
                refine Eq.trans (rr_i2l rfl) ?_
                refine Eq.trans (rr_lcmp rfl) ?_
                refine Eq.trans (rr_if_lt rfl rfl) (it_cg (fun _ => ?_) (fun _ => ?_))
                · refine Eq.trans (rr_lload rfl rfl) ?_
                  refine Eq.trans (rr_lstore_n (L' := [some (.inr (.inr l0)), some (.inr (.inr l1)), some (.inl l2), some (.inr (.inl (am_get ω (am_get ω l1.toNat 2).toNat (am_w (3 * l5)).toNat))), none, some (.inl l5), some (.inr (.inl (am_get ω (am_get ω l1.toNat 2).toNat (am_w (3 * l5)).toNat))), none, some (.inr (.inl (am_get ω (am_get ω l1.toNat 2).toNat (am_w ((am_w (3 * l5)) + 1)).toNat))), none, some (.inr (.inl (am_get ω (am_get ω l1.toNat 2).toNat (am_w ((am_w (3 * l5)) + 2)).toNat))), none]) rfl rfl) ?_
                  refine Eq.trans (rr_iinc (L' := [some (.inr (.inr l0)), some (.inr (.inr l1)), some (.inl l2), some (.inr (.inl (am_get ω (am_get ω l1.toNat 2).toNat (am_w (3 * l5)).toNat))), none, some (.inl (am_w (l5 + 1))), some (.inr (.inl (am_get ω (am_get ω l1.toNat 2).toNat (am_w (3 * l5)).toNat))), none, some (.inr (.inl (am_get ω (am_get ω l1.toNat 2).toNat (am_w ((am_w (3 * l5)) + 1)).toNat))), none, some (.inr (.inl (am_get ω (am_get ω l1.toNat 2).toNat (am_w ((am_w (3 * l5)) + 2)).toNat))), none]) rfl rfl rfl) ?_
                  refine Eq.trans (rr_goto rfl rfl) ?_
                  rfl
                · refine Eq.trans (rr_iconst rfl rfl) ?_
                  exact rr_ireturn rfl rfl
            · refine Eq.trans (rr_iconst rfl rfl) ?_
              exact rr_ireturn rfl rfl
theorem pX6_isSetOfOthers_0 (l0 l1 l2 : Int) (ω : am_W) (h1 : am_is ω l0 (6, 10) = true) (h2 : am_is ω (am_get ω l0.toNat 0) (5, 8) = true) : am_run (137, 0) 0 ([some (.inr (.inr l0)), some (.inl l1), some (.inl l2), none], [], ω) = if ¬ (am_shr l2 (am_get ω (am_get ω l0.toNat 0).toNat 3)) = 0 then (am_run (137, 0) 17 ([some (.inr (.inr l0)), some (.inl l1), some (.inl l2), none], [.inl 0], ω)) else (am_run (137, 0) 17 ([some (.inr (.inr l0)), some (.inl l1), some (.inl l2), none], [.inl 1], ω)) := by
  refine Eq.trans (rr_iload_n rfl rfl) ?_
  refine Eq.trans (rr_aload_n rfl rfl) ?_
  refine Eq.trans (rr_getfr rfl rfl rfl h1) ?_
  refine Eq.trans (rr_getfi rfl rfl rfl h2) ?_
  refine Eq.trans (rr_ishr rfl) ?_
  refine Eq.trans (rr_if_ne rfl rfl) (it_cg (fun _ => ?_) (fun _ => ?_))
  · refine Eq.trans (rr_iconst rfl rfl) ?_
    rfl
  · refine Eq.trans (rr_iconst rfl rfl) ?_
    refine Eq.trans (rr_goto rfl rfl) ?_
    rfl
theorem pX6_isSetOfOthers_17 (l0 l1 l2 s0 : Int) (o3 : Option am_V) (ω : am_W) : am_run (137, 0) 17 ([some (.inr (.inr l0)), some (.inl l1), some (.inl l2), o3], [.inl s0], ω) = if s0 = 0 then (some (some (.inl 0), ω)) else (if ¬ (am_and l2 (am_shl 1 l1)) = 0 then (some (some (.inl 0), ω)) else (am_bi (am_run (234, 0) 0 ([some (.inl l2)], [], ω)) (fun z1 ω1 => if 3 < z1 then (some (some (.inl 0), ω1)) else (some (some (.inl 1), ω1))))) := by
  refine Eq.trans (rr_istore_n (L' := [some (.inr (.inr l0)), some (.inl l1), some (.inl l2), some (.inl s0)]) rfl rfl) ?_
  refine Eq.trans (rr_iload_n rfl rfl) ?_
  refine Eq.trans (rr_if_eq rfl rfl) (it_cg (fun _ => ?_) (fun _ => ?_))
  · refine Eq.trans (rr_iconst rfl rfl) ?_
    exact rr_ireturn rfl rfl
  · refine Eq.trans (rr_iload_n rfl rfl) ?_
    refine Eq.trans (rr_iconst rfl rfl) ?_
    refine Eq.trans (rr_iload_n rfl rfl) ?_
    refine Eq.trans (rr_ishl rfl) ?_
    refine Eq.trans (rr_iand rfl) ?_
    refine Eq.trans (rr_if_ne rfl rfl) (it_cg (fun _ => ?_) (fun _ => ?_))
    · refine Eq.trans (rr_iconst rfl rfl) ?_
      exact rr_ireturn rfl rfl
    · refine Eq.trans (rr_iload_n rfl rfl) ?_
      refine Eq.trans (rr_invS2i (S' := []) (L' := [some (.inl l2)]) (m' := (234, 0)) rfl rfl rfl rfl rfl rfl) ?_
      refine bi_cg (fun z1 ω1 => ?_)
      refine Eq.trans (rr_iconst rfl rfl) ?_
      refine Eq.trans (rr_icmp_gt rfl rfl) (it_cg (fun _ => ?_) (fun _ => ?_))
      · refine Eq.trans (rr_iconst rfl rfl) ?_
        exact rr_ireturn rfl rfl
      · refine Eq.trans (rr_iconst rfl rfl) ?_
        refine Eq.trans (rr_goto rfl rfl) ?_
        exact rr_ireturn rfl rfl
theorem pX6_isFlight_0 (l0 l1 l2 : Int) (ω : am_W) (h1 : am_is ω l0 (6, 10) = true) (h2 : am_is ω (am_get ω l0.toNat 0) (5, 8) = true) : am_run (138, 0) 0 ([some (.inr (.inr l0)), some (.inl l1), some (.inl l2)], [], ω) = if l1 < 0 then (some (some (.inl 0), ω)) else (if 40 < l1 then (some (some (.inl 0), ω)) else (am_bi (am_run (58, 0) 0 ([some (.inr (.inr (am_get ω l0.toNat 0))), some (.inl l2)], [], ω)) (fun z1 ω1 => if z1 = 0 then (some (some (.inl 0), ω1)) else (some (some (.inl 1), ω1))))) := by
  refine Eq.trans (rr_iload_n rfl rfl) ?_
  refine Eq.trans (rr_if_lt rfl rfl) (it_cg (fun _ => ?_) (fun _ => ?_))
  · refine Eq.trans (rr_iconst rfl rfl) ?_
    exact rr_ireturn rfl rfl
  · refine Eq.trans (rr_iload_n rfl rfl) ?_
    refine Eq.trans (rr_bipush rfl rfl) ?_
    refine Eq.trans (rr_icmp_gt rfl rfl) (it_cg (fun _ => ?_) (fun _ => ?_))
    · refine Eq.trans (rr_iconst rfl rfl) ?_
      exact rr_ireturn rfl rfl
    · refine Eq.trans (rr_aload_n rfl rfl) ?_
      refine Eq.trans (rr_getfr rfl rfl rfl h1) ?_
      refine Eq.trans (rr_iload_n rfl rfl) ?_
      refine Eq.trans (rr_invV0i (S' := []) (L' := [some (.inr (.inr (am_get ω l0.toNat 0))), some (.inl l2)]) (m' := (58, 0)) rfl rfl rfl rfl rfl rfl h2) ?_
      refine bi_cg (fun z1 ω1 => ?_)
      refine Eq.trans (rr_if_eq rfl rfl) (it_cg (fun _ => ?_) (fun _ => ?_))
      · refine Eq.trans (rr_iconst rfl rfl) ?_
        exact rr_ireturn rfl rfl
      · refine Eq.trans (rr_iconst rfl rfl) ?_
        refine Eq.trans (rr_goto rfl rfl) ?_
        exact rr_ireturn rfl rfl
theorem pX6_thinking_0 (l0 : Int) (ω : am_W) (h1 : am_is ω l0 (6, 10) = true) : am_run (139, 0) 0 ([some (.inr (.inr l0))], [], ω) = if (am_get ω l0.toNat 8) = -1 then (if am_is (am_new ω (1, 15) (am_d0 1)) l0 (6, 10) = true then (if am_is (am_new ω (1, 15) (am_d0 1)) (((ω).1.length : Int)) (1, 15) = true then (am_bv (am_run (4, 0) 0 ([some (.inr (.inr (((ω).1.length : Int)))), some (.inr (.inr (am_get (am_new ω (1, 15) (am_d0 1)) l0.toNat 0)))], [], am_new ω (1, 15) (am_d0 1))) (fun ω2 => if am_is ω2 l0 (6, 10) = true then (if am_is (am_put ω2 l0.toNat 8 (((ω).1.length : Int))) (am_get (am_put ω2 l0.toNat 8 (((ω).1.length : Int))) l0.toNat 8) (1, 15) = true then (some (some (.inr (.inr (am_get (am_put ω2 l0.toNat 8 (((ω).1.length : Int))) l0.toNat 8))), am_put ω2 l0.toNat 8 (((ω).1.length : Int)))) else none) else none)) else none) else none) else (if am_is ω (am_get ω l0.toNat 8) (1, 15) = true then (some (some (.inr (.inr (am_get ω l0.toNat 8))), ω)) else none) := by
  refine Eq.trans (rr_aload_n rfl rfl) ?_
  refine Eq.trans (rr_getfr rfl rfl rfl h1) ?_
  refine Eq.trans (rr_ifnonnull rfl rfl) (it_cg (fun _ => ?_) (fun _ => ?_))
  · refine Eq.trans (rr_aload_n rfl rfl) ?_
    refine Eq.trans (rr_new rfl rfl rfl) ?_
    refine Eq.trans (rr_dupr rfl) ?_
    refine Eq.trans (rr_aload_n rfl rfl) ?_
    refine ck_it (fun h => rr_getfr rfl rfl rfl h) (fun h => rr_getfield_no rfl rfl h) (fun h2 => ?_)
    refine ck_it (fun h => rr_invI4v (S' := [.inr (.inr (((ω).1.length : Int))), .inr (.inr l0)]) (L' := [some (.inr (.inr (((ω).1.length : Int)))), some (.inr (.inr (am_get (am_new ω (1, 15) (am_d0 1)) l0.toNat 0)))]) (m' := (4, 0)) rfl rfl rfl rfl rfl rfl h) (fun h => rr_invI4_no (S' := [.inr (.inr (((ω).1.length : Int))), .inr (.inr l0)]) (L' := [some (.inr (.inr (((ω).1.length : Int)))), some (.inr (.inr (am_get (am_new ω (1, 15) (am_d0 1)) l0.toNat 0)))]) (m' := (4, 0)) rfl rfl rfl rfl rfl rfl h) (fun h3 => ?_)
    refine bv_cg (fun ω2 => ?_)
    refine ck_it (fun h => rr_putfieldr rfl rfl (by rw [Bool.and_eq_true, Bool.and_eq_true]; exact ⟨rfl, rfl, decide_eq_true (by omega)⟩) h) (fun h => rr_putfieldr_no rfl rfl h) (fun h4 => ?_)
    refine Eq.trans (rr_aload_n rfl rfl) ?_
    refine Eq.trans (rr_getfr rfl rfl rfl h4) ?_
    exact ck_it (fun h => rr_areturn rfl rfl h) (fun h => rr_areturn_no rfl h) (fun _ => rfl)
  · refine Eq.trans (rr_aload_n rfl rfl) ?_
    refine Eq.trans (rr_getfr rfl rfl rfl h1) ?_
    exact ck_it (fun h => rr_areturn rfl rfl h) (fun h => rr_areturn_no rfl h) (fun _ => rfl)
theorem pX6_isShelf_0 (l0 : Int) (ω : am_W) : am_run (140, 0) 0 ([some (.inl l0)], [], ω) = if l0 < 0 then (some (some (.inl 0), ω)) else (if 8 ≤ l0 then (some (some (.inl 0), ω)) else (some (some (.inl 1), ω))) := by
  refine Eq.trans (rr_iload_n rfl rfl) ?_
  refine Eq.trans (rr_if_lt rfl rfl) (it_cg (fun _ => ?_) (fun _ => ?_))
  · refine Eq.trans (rr_iconst rfl rfl) ?_
    exact rr_ireturn rfl rfl
  · refine Eq.trans (rr_iload_n rfl rfl) ?_
    refine Eq.trans (rr_bipush rfl rfl) ?_
    refine Eq.trans (rr_icmp_ge rfl rfl) (it_cg (fun _ => ?_) (fun _ => ?_))
    · refine Eq.trans (rr_iconst rfl rfl) ?_
      exact rr_ireturn rfl rfl
    · refine Eq.trans (rr_iconst rfl rfl) ?_
      refine Eq.trans (rr_goto rfl rfl) ?_
      exact rr_ireturn rfl rfl
theorem pX6_isKind_0 (l0 : Int) (ω : am_W) : am_run (141, 0) 0 ([some (.inl l0)], [], ω) = if l0 < 0 then (some (some (.inl 0), ω)) else (if 6 ≤ l0 then (some (some (.inl 0), ω)) else (some (some (.inl 1), ω))) := by
  refine Eq.trans (rr_iload_n rfl rfl) ?_
  refine Eq.trans (rr_if_lt rfl rfl) (it_cg (fun _ => ?_) (fun _ => ?_))
  · refine Eq.trans (rr_iconst rfl rfl) ?_
    exact rr_ireturn rfl rfl
  · refine Eq.trans (rr_iload_n rfl rfl) ?_
    refine Eq.trans (rr_bipush rfl rfl) ?_
    refine Eq.trans (rr_icmp_ge rfl rfl) (it_cg (fun _ => ?_) (fun _ => ?_))
    · refine Eq.trans (rr_iconst rfl rfl) ?_
      exact rr_ireturn rfl rfl
    · refine Eq.trans (rr_iconst rfl rfl) ?_
      refine Eq.trans (rr_goto rfl rfl) ?_
      exact rr_ireturn rfl rfl
theorem pX6_isChange_0 (l0 : Int) (ω : am_W) : am_run (142, 0) 0 ([some (.inl l0)], [], ω) = if l0 = 1 then (some (some (.inl 1), ω)) else (if ¬ l0 = 2 then (some (some (.inl 0), ω)) else (some (some (.inl 1), ω))) := by
  refine Eq.trans (rr_iload_n rfl rfl) ?_
  refine Eq.trans (rr_iconst rfl rfl) ?_
  refine Eq.trans (rr_icmp_eq rfl rfl) (it_cg (fun _ => ?_) (fun _ => ?_))
  · refine Eq.trans (rr_iconst rfl rfl) ?_
    refine Eq.trans (rr_goto rfl rfl) ?_
    exact rr_ireturn rfl rfl
  · refine Eq.trans (rr_iload_n rfl rfl) ?_
    refine Eq.trans (rr_iconst rfl rfl) ?_
    refine Eq.trans (rr_icmp_ne rfl rfl) (it_cg (fun _ => ?_) (fun _ => ?_))
    · refine Eq.trans (rr_iconst rfl rfl) ?_
      exact rr_ireturn rfl rfl
    · refine Eq.trans (rr_iconst rfl rfl) ?_
      refine Eq.trans (rr_goto rfl rfl) ?_
      exact rr_ireturn rfl rfl
theorem pX6_areDrops_0 (l0 : Int) (ω : am_W) : am_run (143, 0) 0 ([some (.inl l0)], [], ω) = if l0 < 0 then (some (some (.inl 0), ω)) else (if 99 < l0 then (some (some (.inl 0), ω)) else (some (some (.inl 1), ω))) := by
  refine Eq.trans (rr_iload_n rfl rfl) ?_
  refine Eq.trans (rr_if_lt rfl rfl) (it_cg (fun _ => ?_) (fun _ => ?_))
  · refine Eq.trans (rr_iconst rfl rfl) ?_
    exact rr_ireturn rfl rfl
  · refine Eq.trans (rr_iload_n rfl rfl) ?_
    refine Eq.trans (rr_bipush rfl rfl) ?_
    refine Eq.trans (rr_icmp_gt rfl rfl) (it_cg (fun _ => ?_) (fun _ => ?_))
    · refine Eq.trans (rr_iconst rfl rfl) ?_
      exact rr_ireturn rfl rfl
    · refine Eq.trans (rr_iconst rfl rfl) ?_
      refine Eq.trans (rr_goto rfl rfl) ?_
      exact rr_ireturn rfl rfl
theorem pX6_areSteps_0 (l0 : Int) (ω : am_W) : am_run (144, 0) 0 ([some (.inl l0)], [], ω) = if l0 < 0 then (some (some (.inl 0), ω)) else (if 60 < l0 then (some (some (.inl 0), ω)) else (some (some (.inl 1), ω))) := by
  refine Eq.trans (rr_iload_n rfl rfl) ?_
  refine Eq.trans (rr_if_lt rfl rfl) (it_cg (fun _ => ?_) (fun _ => ?_))
  · refine Eq.trans (rr_iconst rfl rfl) ?_
    exact rr_ireturn rfl rfl
  · refine Eq.trans (rr_iload_n rfl rfl) ?_
    refine Eq.trans (rr_bipush rfl rfl) ?_
    refine Eq.trans (rr_icmp_gt rfl rfl) (it_cg (fun _ => ?_) (fun _ => ?_))
    · refine Eq.trans (rr_iconst rfl rfl) ?_
      exact rr_ireturn rfl rfl
    · refine Eq.trans (rr_iconst rfl rfl) ?_
      refine Eq.trans (rr_goto rfl rfl) ?_
      exact rr_ireturn rfl rfl
theorem pX6_modulo_0 (l0 l1 : Int) (ω : am_W) : am_run (145, 0) 0 ([some (.inl l0), some (.inl l1)], [], ω) = if l1 ≤ 0 then (some (some (.inl 0), ω)) else (if l1 = 0 then none else (some (some (.inl (l0.tmod l1)), ω))) := by
  refine Eq.trans (rr_iload_n rfl rfl) ?_
  refine Eq.trans (rr_if_le rfl rfl) (it_cg (fun _ => ?_) (fun _ => ?_))
  · refine Eq.trans (rr_iconst rfl rfl) ?_
    exact rr_ireturn rfl rfl
  · refine Eq.trans (rr_iload_n rfl rfl) ?_
    refine Eq.trans (rr_iload_n rfl rfl) ?_
    refine Eq.trans (rr_irem rfl) (it_cg (fun _ => rfl) (fun _ => ?_))
    refine Eq.trans (rr_goto rfl rfl) ?_
    exact rr_ireturn rfl rfl
theorem pX6_leastCommonMultiple_0 (l0 l2 : Int) (ω : am_W) : am_run (146, 0) 0 ([some (.inr (.inl l0)), none, some (.inl l2), none], [], ω) = if (am_cmp l0 1) < 0 then (some (some (.inr (.inl l0)), ω)) else (if 1 ≤ l2 then (am_run (146, 0) 15 ([some (.inr (.inl l0)), none, some (.inl l2), some (.inl 1)], [], ω)) else (some (some (.inr (.inl l0)), ω))) := by
  refine Eq.trans (rr_lload_n rfl rfl) ?_
  refine Eq.trans (rr_lconst rfl) ?_
  refine Eq.trans (rr_lcmp rfl) ?_
  refine Eq.trans (rr_if_lt rfl rfl) (it_cg (fun _ => ?_) (fun _ => ?_))
  · refine Eq.trans (rr_lload_n rfl rfl) ?_
    exact rr_lreturn rfl rfl
  · refine Eq.trans (rr_iload_n rfl rfl) ?_
    refine Eq.trans (rr_iconst rfl rfl) ?_
    refine Eq.trans (rr_icmp_ge rfl rfl) (it_cg (fun _ => ?_) (fun _ => ?_))
    · refine Eq.trans (rr_iconst rfl rfl) ?_
      refine Eq.trans (rr_istore_n (L' := [some (.inr (.inl l0)), none, some (.inl l2), some (.inl 1)]) rfl rfl) ?_
      rfl
    · refine Eq.trans (rr_lload_n rfl rfl) ?_
      exact rr_lreturn rfl rfl
theorem pX6_leastCommonMultiple_15 (l0 l2 l3 : Int) (ω : am_W) : am_run (146, 0) 15 ([some (.inr (.inl l0)), none, some (.inl l2), some (.inl l3)], [], ω) = if l2 ≤ l3 then (some (some (.inr (.inl (am_wl (l0 * l2)))), ω)) else (if l2 = 0 then none else (if ¬ (am_cmp ((am_wl (l0 * l3)).tmod l2) 0) = 0 then (am_run (146, 0) 15 ([some (.inr (.inl l0)), none, some (.inl l2), some (.inl (am_w (l3 + 1)))], [], ω)) else (some (some (.inr (.inl (am_wl (l0 * l3)))), ω)))) := by
  refine Eq.trans (rr_iload_n rfl rfl) ?_
  refine Eq.trans (rr_iload_n rfl rfl) ?_
  refine Eq.trans (rr_icmp_ge rfl rfl) (it_cg (fun _ => ?_) (fun _ => ?_))
  · refine Eq.trans (rr_lload_n rfl rfl) ?_
    refine Eq.trans (rr_iload_n rfl rfl) ?_
    refine Eq.trans (rr_i2l rfl) ?_
    refine Eq.trans (rr_lmul rfl) ?_
    exact rr_lreturn rfl rfl
  · refine Eq.trans (rr_lload_n rfl rfl) ?_
    refine Eq.trans (rr_iload_n rfl rfl) ?_
    refine Eq.trans (rr_i2l rfl) ?_
    refine Eq.trans (rr_lmul rfl) ?_
    refine Eq.trans (rr_iload_n rfl rfl) ?_
    refine Eq.trans (rr_i2l rfl) ?_
    refine Eq.trans (rr_lrem rfl) (it_cg (fun _ => rfl) (fun _ => ?_))
    refine Eq.trans (rr_lconst rfl) ?_
    refine Eq.trans (rr_lcmp rfl) ?_
    refine Eq.trans (rr_if_ne rfl rfl) (it_cg (fun _ => ?_) (fun _ => ?_))
    · refine Eq.trans (rr_iinc (L' := [some (.inr (.inl l0)), none, some (.inl l2), some (.inl (am_w (l3 + 1)))]) rfl rfl rfl) ?_
      refine Eq.trans (rr_goto rfl rfl) ?_
      rfl
    · refine Eq.trans (rr_lload_n rfl rfl) ?_
      refine Eq.trans (rr_iload_n rfl rfl) ?_
      refine Eq.trans (rr_i2l rfl) ?_
      refine Eq.trans (rr_lmul rfl) ?_
      exact rr_lreturn rfl rfl
