theorem pX4_init_0 (l0 : Int) (ω : am_W) (h1 : 0 ≤ l0) : am_run (46, 0) 0 ([some (.inr (.inr l0))], [], ω) = some (none, ω) := by
  refine Eq.trans (rr_aload_n rfl rfl) ?_
  refine Eq.trans (rr_objInit rfl rfl rfl (decide_eq_true h1) rfl) ?_
  exact rr_return rfl rfl
theorem pX4_become_0 (l0 l1 : Int) (ω : am_W) (h1 : am_is ω l1 (4, 5) = true) (h2 : am_is ω l0 (4, 5) = true) : am_run (47, 0) 0 ([some (.inr (.inr l0)), some (.inr (.inr l1))], [], ω) = am_run (47, 0) 16 ([some (.inr (.inr l0)), some (.inr (.inr l1))], [], am_put (am_put ω l0.toNat 0 (am_get ω l1.toNat 0)) l0.toNat 1 (am_get (am_put ω l0.toNat 0 (am_get ω l1.toNat 0)) l1.toNat 1)) := by
  refine Eq.trans (rr_aload_n rfl rfl) ?_
  refine Eq.trans (rr_aload_n rfl rfl) ?_
  refine Eq.trans (rr_getfi rfl rfl rfl h1) ?_
  refine Eq.trans (rr_putfieldi rfl rfl rfl h2) ?_
  refine Eq.trans (rr_aload_n rfl rfl) ?_
  refine Eq.trans (rr_aload_n rfl rfl) ?_
  refine Eq.trans (rr_getfi rfl rfl rfl h1) ?_
  refine Eq.trans (rr_putfieldi rfl rfl rfl h2) ?_
  rfl
theorem pX4_become_16 (l0 l1 : Int) (ω : am_W) (h1 : am_is ω l1 (4, 5) = true) (h2 : am_is ω l0 (4, 5) = true) : am_run (47, 0) 16 ([some (.inr (.inr l0)), some (.inr (.inr l1))], [], ω) = am_run (47, 0) 32 ([some (.inr (.inr l0)), some (.inr (.inr l1))], [], am_put (am_put ω l0.toNat 2 (am_get ω l1.toNat 2)) l0.toNat 3 (am_get (am_put ω l0.toNat 2 (am_get ω l1.toNat 2)) l1.toNat 3)) := by
  refine Eq.trans (rr_aload_n rfl rfl) ?_
  refine Eq.trans (rr_aload_n rfl rfl) ?_
  refine Eq.trans (rr_getfi rfl rfl rfl h1) ?_
  refine Eq.trans (rr_putfieldi rfl rfl rfl h2) ?_
  refine Eq.trans (rr_aload_n rfl rfl) ?_
  refine Eq.trans (rr_aload_n rfl rfl) ?_
  refine Eq.trans (rr_getfi rfl rfl rfl h1) ?_
  refine Eq.trans (rr_putfieldi rfl rfl rfl h2) ?_
  rfl
theorem pX4_become_32 (l0 l1 : Int) (ω : am_W) (h1 : am_is ω l1 (4, 5) = true) (h2 : am_is ω l0 (4, 5) = true) : am_run (47, 0) 32 ([some (.inr (.inr l0)), some (.inr (.inr l1))], [], ω) = some (none, am_put ω l0.toNat 4 (am_get ω l1.toNat 4)) := by
  refine Eq.trans (rr_aload_n rfl rfl) ?_
  refine Eq.trans (rr_aload_n rfl rfl) ?_
  refine Eq.trans (rr_getfi rfl rfl rfl h1) ?_
  refine Eq.trans (rr_putfieldi rfl rfl rfl h2) ?_
  exact rr_return rfl rfl
theorem pX4_isWith_0 (l0 l1 : Int) (ω : am_W) (h1 : am_is ω l0 (4, 5) = true) (h2 : am_is ω l1 (4, 5) = true) : am_run (48, 0) 0 ([some (.inr (.inr l0)), some (.inr (.inr l1))], [], ω) = if ¬ (am_get ω l0.toNat 4) = 0 then (some (some (.inl 0), ω)) else (if ¬ (am_get ω l1.toNat 4) = 0 then (some (some (.inl 0), ω)) else (if ¬ (am_get ω l0.toNat 1) = (am_get ω l1.toNat 1) then (some (some (.inl 0), ω)) else (if ¬ (am_get ω l0.toNat 2) = (am_get ω l1.toNat 2) then (some (some (.inl 0), ω)) else (some (some (.inl 1), ω))))) := by
  refine Eq.trans (rr_aload_n rfl rfl) ?_
  refine Eq.trans (rr_getfi rfl rfl rfl h1) ?_
  refine Eq.trans (rr_if_ne rfl rfl) (it_cg (fun _ => ?_) (fun _ => ?_))
  · refine Eq.trans (rr_iconst rfl rfl) ?_
    exact rr_ireturn rfl rfl
  · refine Eq.trans (rr_aload_n rfl rfl) ?_
    refine Eq.trans (rr_getfi rfl rfl rfl h2) ?_
    refine Eq.trans (rr_if_ne rfl rfl) (it_cg (fun _ => ?_) (fun _ => ?_))
    · refine Eq.trans (rr_iconst rfl rfl) ?_
      exact rr_ireturn rfl rfl
    · refine Eq.trans (rr_aload_n rfl rfl) ?_
      refine Eq.trans (rr_getfi rfl rfl rfl h1) ?_
      refine Eq.trans (rr_aload_n rfl rfl) ?_
      refine Eq.trans (rr_getfi rfl rfl rfl h2) ?_
      refine Eq.trans (rr_icmp_ne rfl rfl) (it_cg (fun _ => ?_) (fun _ => ?_))
      · refine Eq.trans (rr_iconst rfl rfl) ?_
        exact rr_ireturn rfl rfl
      · refine Eq.trans (rr_aload_n rfl rfl) ?_
        refine Eq.trans (rr_getfi rfl rfl rfl h1) ?_
        refine Eq.trans (rr_aload_n rfl rfl) ?_
        refine Eq.trans (rr_getfi rfl rfl rfl h2) ?_
        refine Eq.trans (rr_icmp_ne rfl rfl) (it_cg (fun _ => ?_) (fun _ => ?_))
        · refine Eq.trans (rr_iconst rfl rfl) ?_
          exact rr_ireturn rfl rfl
        · refine Eq.trans (rr_iconst rfl rfl) ?_
          refine Eq.trans (rr_goto rfl rfl) ?_
          exact rr_ireturn rfl rfl
theorem pX4_isOf_0 (l0 l1 : Int) (ω : am_W) (h3 : am_is ω l0 (4, 5) = true) : am_run (49, 0) 0 ([some (.inr (.inr l0)), some (.inl l1)], [], ω) = if l1 = 0 then (some (some (.inl 1), ω)) else if l1 = 1 then (if (am_get ω l0.toNat 0) = 1 then (some (some (.inl 1), ω)) else (if ¬ (am_get ω l0.toNat 0) = 5 then (some (some (.inl 0), ω)) else (some (some (.inl 1), ω)))) else if l1 = 2 then (if (am_get ω l0.toNat 0) = 2 then (some (some (.inl 1), ω)) else (if ¬ (am_get ω l0.toNat 0) = 3 then (some (some (.inl 0), ω)) else (some (some (.inl 1), ω)))) else (if ¬ (am_get ω l0.toNat 0) = l1 then (some (some (.inl 0), ω)) else (some (some (.inl 1), ω))) := by
  refine Eq.trans (rr_iload_n rfl rfl) ?_
  refine sw_it (fun q1 => Eq.trans (rr_tsw rfl (by rw [q1]; rfl) rfl) ?_) (fun q1 => ?_)
  · refine Eq.trans (rr_iconst rfl rfl) ?_
    exact rr_ireturn rfl rfl
  refine sw_it (fun q2 => Eq.trans (rr_tsw rfl (by rw [q2]; rfl) rfl) ?_) (fun q2 => ?_)
  · refine Eq.trans (rr_aload_n rfl rfl) ?_
    refine Eq.trans (rr_getfi rfl rfl rfl h3) ?_
    refine Eq.trans (rr_iconst rfl rfl) ?_
    refine Eq.trans (rr_icmp_eq rfl rfl) (it_cg (fun _ => ?_) (fun _ => ?_))
    · refine Eq.trans (rr_iconst rfl rfl) ?_
      refine Eq.trans (rr_goto rfl rfl) ?_
      exact rr_ireturn rfl rfl
    · refine Eq.trans (rr_aload_n rfl rfl) ?_
      refine Eq.trans (rr_getfi rfl rfl rfl h3) ?_
      refine Eq.trans (rr_iconst rfl rfl) ?_
      refine Eq.trans (rr_icmp_ne rfl rfl) (it_cg (fun _ => ?_) (fun _ => ?_))
      · refine Eq.trans (rr_iconst rfl rfl) ?_
        exact rr_ireturn rfl rfl
      · refine Eq.trans (rr_iconst rfl rfl) ?_
        refine Eq.trans (rr_goto rfl rfl) ?_
        exact rr_ireturn rfl rfl
  refine sw_it (fun q4 => Eq.trans (rr_tsw rfl (by rw [q4]; rfl) rfl) ?_) (fun q4 => ?_)
  · refine Eq.trans (rr_aload_n rfl rfl) ?_
    refine Eq.trans (rr_getfi rfl rfl rfl h3) ?_
    refine Eq.trans (rr_iconst rfl rfl) ?_
    refine Eq.trans (rr_icmp_eq rfl rfl) (it_cg (fun _ => ?_) (fun _ => ?_))
    · refine Eq.trans (rr_iconst rfl rfl) ?_
      refine Eq.trans (rr_goto rfl rfl) ?_
      exact rr_ireturn rfl rfl
    · refine Eq.trans (rr_aload_n rfl rfl) ?_
      refine Eq.trans (rr_getfi rfl rfl rfl h3) ?_
      refine Eq.trans (rr_iconst rfl rfl) ?_
      refine Eq.trans (rr_icmp_ne rfl rfl) (it_cg (fun _ => ?_) (fun _ => ?_))
      · refine Eq.trans (rr_iconst rfl rfl) ?_
        exact rr_ireturn rfl rfl
      · refine Eq.trans (rr_iconst rfl rfl) ?_
        refine Eq.trans (rr_goto rfl rfl) ?_
        exact rr_ireturn rfl rfl
  refine Eq.trans (rr_tsw rfl (am_tsw_out (by omega)) rfl) ?_
  refine Eq.trans (rr_aload_n rfl rfl) ?_
  refine Eq.trans (rr_getfi rfl rfl rfl h3) ?_
  refine Eq.trans (rr_iload_n rfl rfl) ?_
  refine Eq.trans (rr_icmp_ne rfl rfl) (it_cg (fun _ => ?_) (fun _ => ?_))
  · refine Eq.trans (rr_iconst rfl rfl) ?_
    exact rr_ireturn rfl rfl
  · refine Eq.trans (rr_iconst rfl rfl) ?_
    refine Eq.trans (rr_goto rfl rfl) ?_
    exact rr_ireturn rfl rfl
theorem pX4_steers_0 (l0 : Int) (ω : am_W) (h1 : am_is ω l0 (4, 5) = true) : am_run (50, 0) 0 ([some (.inr (.inr l0))], [], ω) = if (am_get ω l0.toNat 0) = 0 then (some (some (.inl 1), ω)) else (am_bi (am_run (49, 0) 0 ([some (.inr (.inr l0)), some (.inl 1)], [], ω)) (fun z1 ω1 => if z1 = 0 then (some (some (.inl 0), ω1)) else (some (some (.inl 1), ω1)))) := by
  refine Eq.trans (rr_aload_n rfl rfl) ?_
  refine Eq.trans (rr_getfi rfl rfl rfl h1) ?_
  refine Eq.trans (rr_if_eq rfl rfl) (it_cg (fun _ => ?_) (fun _ => ?_))
  · refine Eq.trans (rr_iconst rfl rfl) ?_
    refine Eq.trans (rr_goto rfl rfl) ?_
    exact rr_ireturn rfl rfl
  · refine Eq.trans (rr_aload_n rfl rfl) ?_
    refine Eq.trans (rr_iconst rfl rfl) ?_
    refine Eq.trans (rr_invV0i (S' := []) (L' := [some (.inr (.inr l0)), some (.inl 1)]) (m' := (49, 0)) rfl rfl rfl rfl rfl rfl h1) ?_
    refine bi_cg (fun z1 ω1 => ?_)
    refine Eq.trans (rr_if_eq rfl rfl) (it_cg (fun _ => ?_) (fun _ => ?_))
    · refine Eq.trans (rr_iconst rfl rfl) ?_
      exact rr_ireturn rfl rfl
    · refine Eq.trans (rr_iconst rfl rfl) ?_
      refine Eq.trans (rr_goto rfl rfl) ?_
      exact rr_ireturn rfl rfl
theorem pX4_busyBehind_0 (l0 l1 : Int) (ω : am_W) (h1 : am_is ω l0 (4, 5) = true) : am_run (51, 0) 0 ([some (.inr (.inr l0)), some (.inl l1)], [], ω) = am_bi (am_run (236, 0) 0 ([some (.inl 0), some (.inl (am_w ((am_get ω l0.toNat 4) - l1)))], [], ω)) (fun z1 ω1 => some (some (.inl z1), ω1)) := by
  refine Eq.trans (rr_iconst rfl rfl) ?_
  refine Eq.trans (rr_aload_n rfl rfl) ?_
  refine Eq.trans (rr_getfi rfl rfl rfl h1) ?_
  refine Eq.trans (rr_iload_n rfl rfl) ?_
  refine Eq.trans (rr_isub rfl) ?_
  refine Eq.trans (rr_invS2i (S' := []) (L' := [some (.inl 0), some (.inl (am_w ((am_get ω l0.toNat 4) - l1)))]) (m' := (236, 0)) rfl rfl rfl rfl rfl rfl) ?_
  refine bi_cg (fun z1 ω1 => ?_)
  exact rr_ireturn rfl rfl
theorem pX5_init_0 (l0 : Int) (ω : am_W) (h1 : 0 ≤ l0) (h2 : am_is ω l0 (5, 8) = true) : am_run (52, 0) 0 ([some (.inr (.inr l0)), none], [], ω) = if am_in (am_new (am_put ω l0.toNat 0 4) (100, 6) (fun _ => 0)) (((am_put ω l0.toNat 0 4).1.length : Int)) 100 0 = true then (if am_in (am_put (am_new (am_put ω l0.toNat 0 4) (100, 6) (fun _ => 0)) (((am_put ω l0.toNat 0 4).1.length : Int)).toNat 0 4) (((am_put ω l0.toNat 0 4).1.length : Int)) 100 1 = true then (if am_in (am_put (am_put (am_new (am_put ω l0.toNat 0 4) (100, 6) (fun _ => 0)) (((am_put ω l0.toNat 0 4).1.length : Int)).toNat 0 4) (((am_put ω l0.toNat 0 4).1.length : Int)).toNat 1 6) (((am_put ω l0.toNat 0 4).1.length : Int)) 100 2 = true then (if am_in (am_put (am_put (am_put (am_new (am_put ω l0.toNat 0 4) (100, 6) (fun _ => 0)) (((am_put ω l0.toNat 0 4).1.length : Int)).toNat 0 4) (((am_put ω l0.toNat 0 4).1.length : Int)).toNat 1 6) (((am_put ω l0.toNat 0 4).1.length : Int)).toNat 2 8) (((am_put ω l0.toNat 0 4).1.length : Int)) 100 3 = true then (if am_in (am_put (am_put (am_put (am_put (am_new (am_put ω l0.toNat 0 4) (100, 6) (fun _ => 0)) (((am_put ω l0.toNat 0 4).1.length : Int)).toNat 0 4) (((am_put ω l0.toNat 0 4).1.length : Int)).toNat 1 6) (((am_put ω l0.toNat 0 4).1.length : Int)).toNat 2 8) (((am_put ω l0.toNat 0 4).1.length : Int)).toNat 3 10) (((am_put ω l0.toNat 0 4).1.length : Int)) 100 4 = true then (if am_in (am_put (am_put (am_put (am_put (am_put (am_new (am_put ω l0.toNat 0 4) (100, 6) (fun _ => 0)) (((am_put ω l0.toNat 0 4).1.length : Int)).toNat 0 4) (((am_put ω l0.toNat 0 4).1.length : Int)).toNat 1 6) (((am_put ω l0.toNat 0 4).1.length : Int)).toNat 2 8) (((am_put ω l0.toNat 0 4).1.length : Int)).toNat 3 10) (((am_put ω l0.toNat 0 4).1.length : Int)).toNat 4 12) (((am_put ω l0.toNat 0 4).1.length : Int)) 100 5 = true then (if am_is (am_put (am_put (am_put (am_put (am_put (am_put (am_new (am_put ω l0.toNat 0 4) (100, 6) (fun _ => 0)) (((am_put ω l0.toNat 0 4).1.length : Int)).toNat 0 4) (((am_put ω l0.toNat 0 4).1.length : Int)).toNat 1 6) (((am_put ω l0.toNat 0 4).1.length : Int)).toNat 2 8) (((am_put ω l0.toNat 0 4).1.length : Int)).toNat 3 10) (((am_put ω l0.toNat 0 4).1.length : Int)).toNat 4 12) (((am_put ω l0.toNat 0 4).1.length : Int)).toNat 5 14) l0 (5, 8) = true then (am_run (52, 0) 46 ([some (.inr (.inr l0)), none], [], am_put (am_put (am_put (am_put (am_put (am_put (am_put (am_new (am_put ω l0.toNat 0 4) (100, 6) (fun _ => 0)) (((am_put ω l0.toNat 0 4).1.length : Int)).toNat 0 4) (((am_put ω l0.toNat 0 4).1.length : Int)).toNat 1 6) (((am_put ω l0.toNat 0 4).1.length : Int)).toNat 2 8) (((am_put ω l0.toNat 0 4).1.length : Int)).toNat 3 10) (((am_put ω l0.toNat 0 4).1.length : Int)).toNat 4 12) (((am_put ω l0.toNat 0 4).1.length : Int)).toNat 5 14) l0.toNat 1 (((am_put ω l0.toNat 0 4).1.length : Int)))) else none) else none) else none) else none) else none) else none) else none := by
  refine Eq.trans (rr_aload_n rfl rfl) ?_
  refine Eq.trans (rr_objInit rfl rfl rfl (decide_eq_true h1) rfl) ?_
  refine Eq.trans (rr_aload_n rfl rfl) ?_
  refine Eq.trans (rr_iconst rfl rfl) ?_
  refine Eq.trans (rr_putfieldi rfl rfl rfl h2) ?_
  refine Eq.trans (rr_aload_n rfl rfl) ?_
  refine Eq.trans (rr_bipush rfl rfl) ?_
  refine Eq.trans (rr_newarrayI rfl rfl) ?_
  refine Eq.trans (rr_dupr rfl) ?_
  refine Eq.trans (rr_iconst rfl rfl) ?_
  refine Eq.trans (rr_iconst rfl rfl) ?_
  refine ck_it (fun h => rr_iastore rfl h) (fun h => rr_iastore_no rfl h) (fun h3 => ?_)
  refine Eq.trans (rr_dupr rfl) ?_
  refine Eq.trans (rr_iconst rfl rfl) ?_
  refine Eq.trans (rr_bipush rfl rfl) ?_
  refine ck_it (fun h => rr_iastore rfl h) (fun h => rr_iastore_no rfl h) (fun h4 => ?_)
  refine Eq.trans (rr_dupr rfl) ?_
  refine Eq.trans (rr_iconst rfl rfl) ?_
  refine Eq.trans (rr_bipush rfl rfl) ?_
  refine ck_it (fun h => rr_iastore rfl h) (fun h => rr_iastore_no rfl h) (fun h5 => ?_)
  refine Eq.trans (rr_dupr rfl) ?_
  refine Eq.trans (rr_iconst rfl rfl) ?_
  refine Eq.trans (rr_bipush rfl rfl) ?_
  refine ck_it (fun h => rr_iastore rfl h) (fun h => rr_iastore_no rfl h) (fun h6 => ?_)
  refine Eq.trans (rr_dupr rfl) ?_
  refine Eq.trans (rr_iconst rfl rfl) ?_
  refine Eq.trans (rr_bipush rfl rfl) ?_
  refine ck_it (fun h => rr_iastore rfl h) (fun h => rr_iastore_no rfl h) (fun h7 => ?_)
  refine Eq.trans (rr_dupr rfl) ?_
  refine Eq.trans (rr_iconst rfl rfl) ?_
  refine Eq.trans (rr_bipush rfl rfl) ?_
  refine ck_it (fun h => rr_iastore rfl h) (fun h => rr_iastore_no rfl h) (fun h8 => ?_)
  refine ck_it (fun h => rr_putfieldr rfl rfl (by rw [Bool.and_eq_true, Bool.and_eq_true]; exact ⟨rfl, rfl, decide_eq_true (by omega)⟩) h) (fun h => rr_putfieldr_no rfl rfl h) (fun h9 => ?_)
  rfl
theorem pX5_init_46 (l0 : Int) (o1 : Option am_V) (ω : am_W) : am_run (52, 0) 46 ([some (.inr (.inr l0)), o1], [], ω) = if am_in (am_new ω (100, 5) (fun _ => 0)) (((ω).1.length : Int)) 100 0 = true then (if am_in (am_put (am_new ω (100, 5) (fun _ => 0)) (((ω).1.length : Int)).toNat 0 1) (((ω).1.length : Int)) 100 1 = true then (if am_in (am_put (am_put (am_new ω (100, 5) (fun _ => 0)) (((ω).1.length : Int)).toNat 0 1) (((ω).1.length : Int)).toNat 1 1) (((ω).1.length : Int)) 100 2 = true then (if am_in (am_put (am_put (am_put (am_new ω (100, 5) (fun _ => 0)) (((ω).1.length : Int)).toNat 0 1) (((ω).1.length : Int)).toNat 1 1) (((ω).1.length : Int)).toNat 2 1) (((ω).1.length : Int)) 100 3 = true then (if am_in (am_put (am_put (am_put (am_put (am_new ω (100, 5) (fun _ => 0)) (((ω).1.length : Int)).toNat 0 1) (((ω).1.length : Int)).toNat 1 1) (((ω).1.length : Int)).toNat 2 1) (((ω).1.length : Int)).toNat 3 1) (((ω).1.length : Int)) 100 4 = true then (if am_is (am_put (am_put (am_put (am_put (am_put (am_new ω (100, 5) (fun _ => 0)) (((ω).1.length : Int)).toNat 0 1) (((ω).1.length : Int)).toNat 1 1) (((ω).1.length : Int)).toNat 2 1) (((ω).1.length : Int)).toNat 3 1) (((ω).1.length : Int)).toNat 4 1) l0 (5, 8) = true then (am_run (52, 0) 73 ([some (.inr (.inr l0)), o1], [], am_put (am_put (am_put (am_put (am_put (am_put (am_new ω (100, 5) (fun _ => 0)) (((ω).1.length : Int)).toNat 0 1) (((ω).1.length : Int)).toNat 1 1) (((ω).1.length : Int)).toNat 2 1) (((ω).1.length : Int)).toNat 3 1) (((ω).1.length : Int)).toNat 4 1) l0.toNat 2 (((ω).1.length : Int)))) else none) else none) else none) else none) else none) else none := by
  refine Eq.trans (rr_aload_n rfl rfl) ?_
  refine Eq.trans (rr_iconst rfl rfl) ?_
  refine Eq.trans (rr_newarrayI rfl rfl) ?_
  refine Eq.trans (rr_dupr rfl) ?_
  refine Eq.trans (rr_iconst rfl rfl) ?_
  refine Eq.trans (rr_iconst rfl rfl) ?_
  refine ck_it (fun h => rr_iastore rfl h) (fun h => rr_iastore_no rfl h) (fun h1 => ?_)
  refine Eq.trans (rr_dupr rfl) ?_
  refine Eq.trans (rr_iconst rfl rfl) ?_
  refine Eq.trans (rr_iconst rfl rfl) ?_
  refine ck_it (fun h => rr_iastore rfl h) (fun h => rr_iastore_no rfl h) (fun h2 => ?_)
  refine Eq.trans (rr_dupr rfl) ?_
  refine Eq.trans (rr_iconst rfl rfl) ?_
  refine Eq.trans (rr_iconst rfl rfl) ?_
  refine ck_it (fun h => rr_iastore rfl h) (fun h => rr_iastore_no rfl h) (fun h3 => ?_)
  refine Eq.trans (rr_dupr rfl) ?_
  refine Eq.trans (rr_iconst rfl rfl) ?_
  refine Eq.trans (rr_iconst rfl rfl) ?_
  refine ck_it (fun h => rr_iastore rfl h) (fun h => rr_iastore_no rfl h) (fun h4 => ?_)
  refine Eq.trans (rr_dupr rfl) ?_
  refine Eq.trans (rr_iconst rfl rfl) ?_
  refine Eq.trans (rr_iconst rfl rfl) ?_
  refine ck_it (fun h => rr_iastore rfl h) (fun h => rr_iastore_no rfl h) (fun h5 => ?_)
  refine ck_it (fun h => rr_putfieldr rfl rfl (by rw [Bool.and_eq_true, Bool.and_eq_true]; exact ⟨rfl, rfl, decide_eq_true (by omega)⟩) h) (fun h => rr_putfieldr_no rfl rfl h) (fun h6 => ?_)
  rfl
theorem pX5_init_73 (l0 : Int) (o1 : Option am_V) (ω : am_W) : am_run (52, 0) 73 ([some (.inr (.inr l0)), o1], [], ω) = if am_is (am_new ω (102, 6) (fun _ => -1)) l0 (5, 8) = true then (am_run (52, 0) 82 ([some (.inr (.inr l0)), o1], [], am_put (am_new ω (102, 6) (fun _ => -1)) l0.toNat 4 (((ω).1.length : Int)))) else none := by
  refine Eq.trans (rr_aload_n rfl rfl) ?_
  refine Eq.trans (rr_bipush rfl rfl) ?_
  refine Eq.trans (rr_anewarrayV rfl rfl rfl) ?_
  refine ck_it (fun h => rr_putfieldr rfl rfl (by rw [Bool.and_eq_true, Bool.and_eq_true]; exact ⟨rfl, rfl, decide_eq_true (by omega)⟩) h) (fun h => rr_putfieldr_no rfl rfl h) (fun h1 => ?_)
  rfl
theorem pX5_init_82 (l0 : Int) (o1 : Option am_V) (ω : am_W) (h1 : am_is ω l0 (5, 8) = true) : am_run (52, 0) 82 ([some (.inr (.inr l0)), o1], [], ω) = am_run (52, 0) 89 ([some (.inr (.inr l0)), some (.inl 0)], [], am_put ω l0.toNat 7 1) := by
  refine Eq.trans (rr_aload_n rfl rfl) ?_
  refine Eq.trans (rr_iconst rfl rfl) ?_
  refine Eq.trans (rr_putfieldi rfl rfl rfl h1) ?_
  refine Eq.trans (rr_iconst rfl rfl) ?_
  refine Eq.trans (rr_istore_n (L' := [some (.inr (.inr l0)), some (.inl 0)]) rfl rfl) ?_
  rfl
theorem pX5_init_89 (l0 l1 : Int) (ω : am_W) (h1 : am_is ω l0 (5, 8) = true) : am_run (52, 0) 89 ([some (.inr (.inr l0)), some (.inl l1)], [], ω) = if 6 ≤ l1 then (some (none, ω)) else (if am_is (am_new ω (4, 5) (am_d0 4)) (((ω).1.length : Int)) (4, 5) = true then (am_bv (am_run (46, 0) 0 ([some (.inr (.inr (((ω).1.length : Int))))], [], am_new ω (4, 5) (am_d0 4))) (fun ω2 => if am_sta2 ω2 (am_get ω l0.toNat 4) l1 (((ω).1.length : Int)) = true then (am_run (52, 0) 108 ([some (.inr (.inr l0)), some (.inl l1)], [], am_put ω2 (am_get ω l0.toNat 4).toNat l1.toNat (((ω).1.length : Int)))) else none)) else none) := by
  refine Eq.trans (rr_iload_n rfl rfl) ?_
  refine Eq.trans (rr_bipush rfl rfl) ?_
  refine Eq.trans (rr_icmp_ge rfl rfl) (it_cg (fun _ => ?_) (fun _ => ?_))
  · exact rr_return rfl rfl
  · refine Eq.trans (rr_aload_n rfl rfl) ?_
    refine Eq.trans (rr_getfr rfl rfl rfl h1) ?_
    refine Eq.trans (rr_iload_n rfl rfl) ?_
    refine Eq.trans (rr_new rfl rfl rfl) ?_
    refine Eq.trans (rr_dupr rfl) ?_
    refine ck_it (fun h => rr_invI5v (S' := [.inr (.inr (((ω).1.length : Int))), .inl l1, .inr (.inr (am_get ω l0.toNat 4))]) (L' := [some (.inr (.inr (((ω).1.length : Int))))]) (m' := (46, 0)) rfl rfl rfl rfl rfl rfl h) (fun h => rr_invI5_no (S' := [.inr (.inr (((ω).1.length : Int))), .inl l1, .inr (.inr (am_get ω l0.toNat 4))]) (L' := [some (.inr (.inr (((ω).1.length : Int))))]) (m' := (46, 0)) rfl rfl rfl rfl rfl rfl h) (fun h2 => ?_)
    refine bv_cg (fun ω2 => ?_)
    refine ck_it (fun h => rr_aastore rfl h) (fun h => rr_aastore_no rfl h) (fun h3 => ?_)
    rfl
theorem pX5_init_108 (l0 l1 : Int) (ω : am_W) : am_run (52, 0) 108 ([some (.inr (.inr l0)), some (.inl l1)], [], ω) = am_run (52, 0) 89 ([some (.inr (.inr l0)), some (.inl (am_w (l1 + 1)))], [], ω) := by
  refine Eq.trans (rr_iinc (L' := [some (.inr (.inr l0)), some (.inl (am_w (l1 + 1)))]) rfl rfl rfl) ?_
  refine Eq.trans (rr_goto rfl rfl) ?_
  rfl
theorem pX5_become_0 (l0 l1 : Int) (ω : am_W) (h1 : am_is ω l1 (5, 8) = true) (h2 : am_is ω l0 (5, 8) = true) : am_run (53, 0) 0 ([some (.inr (.inr l0)), some (.inr (.inr l1)), none], [], ω) = if am_arl (am_put ω l0.toNat 0 (am_get ω l1.toNat 0)) (am_get (am_put ω l0.toNat 0 (am_get ω l1.toNat 0)) l0.toNat 1) = true then (if am_cpok (am_put ω l0.toNat 0 (am_get ω l1.toNat 0)) (am_get (am_put ω l0.toNat 0 (am_get ω l1.toNat 0)) l1.toNat 1) 0 (am_get (am_put ω l0.toNat 0 (am_get ω l1.toNat 0)) l0.toNat 1) 0 (am_len (am_put ω l0.toNat 0 (am_get ω l1.toNat 0)) (am_get (am_put ω l0.toNat 0 (am_get ω l1.toNat 0)) l0.toNat 1)) = true then (if am_arl (am_cpy (am_put ω l0.toNat 0 (am_get ω l1.toNat 0)) (am_get (am_put ω l0.toNat 0 (am_get ω l1.toNat 0)) l1.toNat 1).toNat 0 (am_get (am_put ω l0.toNat 0 (am_get ω l1.toNat 0)) l0.toNat 1).toNat 0 (am_len (am_put ω l0.toNat 0 (am_get ω l1.toNat 0)) (am_get (am_put ω l0.toNat 0 (am_get ω l1.toNat 0)) l0.toNat 1)).toNat) (am_get (am_cpy (am_put ω l0.toNat 0 (am_get ω l1.toNat 0)) (am_get (am_put ω l0.toNat 0 (am_get ω l1.toNat 0)) l1.toNat 1).toNat 0 (am_get (am_put ω l0.toNat 0 (am_get ω l1.toNat 0)) l0.toNat 1).toNat 0 (am_len (am_put ω l0.toNat 0 (am_get ω l1.toNat 0)) (am_get (am_put ω l0.toNat 0 (am_get ω l1.toNat 0)) l0.toNat 1)).toNat) l0.toNat 2) = true then (if am_cpok (am_cpy (am_put ω l0.toNat 0 (am_get ω l1.toNat 0)) (am_get (am_put ω l0.toNat 0 (am_get ω l1.toNat 0)) l1.toNat 1).toNat 0 (am_get (am_put ω l0.toNat 0 (am_get ω l1.toNat 0)) l0.toNat 1).toNat 0 (am_len (am_put ω l0.toNat 0 (am_get ω l1.toNat 0)) (am_get (am_put ω l0.toNat 0 (am_get ω l1.toNat 0)) l0.toNat 1)).toNat) (am_get (am_cpy (am_put ω l0.toNat 0 (am_get ω l1.toNat 0)) (am_get (am_put ω l0.toNat 0 (am_get ω l1.toNat 0)) l1.toNat 1).toNat 0 (am_get (am_put ω l0.toNat 0 (am_get ω l1.toNat 0)) l0.toNat 1).toNat 0 (am_len (am_put ω l0.toNat 0 (am_get ω l1.toNat 0)) (am_get (am_put ω l0.toNat 0 (am_get ω l1.toNat 0)) l0.toNat 1)).toNat) l1.toNat 2) 0 (am_get (am_cpy (am_put ω l0.toNat 0 (am_get ω l1.toNat 0)) (am_get (am_put ω l0.toNat 0 (am_get ω l1.toNat 0)) l1.toNat 1).toNat 0 (am_get (am_put ω l0.toNat 0 (am_get ω l1.toNat 0)) l0.toNat 1).toNat 0 (am_len (am_put ω l0.toNat 0 (am_get ω l1.toNat 0)) (am_get (am_put ω l0.toNat 0 (am_get ω l1.toNat 0)) l0.toNat 1)).toNat) l0.toNat 2) 0 (am_len (am_cpy (am_put ω l0.toNat 0 (am_get ω l1.toNat 0)) (am_get (am_put ω l0.toNat 0 (am_get ω l1.toNat 0)) l1.toNat 1).toNat 0 (am_get (am_put ω l0.toNat 0 (am_get ω l1.toNat 0)) l0.toNat 1).toNat 0 (am_len (am_put ω l0.toNat 0 (am_get ω l1.toNat 0)) (am_get (am_put ω l0.toNat 0 (am_get ω l1.toNat 0)) l0.toNat 1)).toNat) (am_get (am_cpy (am_put ω l0.toNat 0 (am_get ω l1.toNat 0)) (am_get (am_put ω l0.toNat 0 (am_get ω l1.toNat 0)) l1.toNat 1).toNat 0 (am_get (am_put ω l0.toNat 0 (am_get ω l1.toNat 0)) l0.toNat 1).toNat 0 (am_len (am_put ω l0.toNat 0 (am_get ω l1.toNat 0)) (am_get (am_put ω l0.toNat 0 (am_get ω l1.toNat 0)) l0.toNat 1)).toNat) l0.toNat 2)) = true then (am_run (53, 0) 52 ([some (.inr (.inr l0)), some (.inr (.inr l1)), none], [], am_put (am_cpy (am_cpy (am_put ω l0.toNat 0 (am_get ω l1.toNat 0)) (am_get (am_put ω l0.toNat 0 (am_get ω l1.toNat 0)) l1.toNat 1).toNat 0 (am_get (am_put ω l0.toNat 0 (am_get ω l1.toNat 0)) l0.toNat 1).toNat 0 (am_len (am_put ω l0.toNat 0 (am_get ω l1.toNat 0)) (am_get (am_put ω l0.toNat 0 (am_get ω l1.toNat 0)) l0.toNat 1)).toNat) (am_get (am_cpy (am_put ω l0.toNat 0 (am_get ω l1.toNat 0)) (am_get (am_put ω l0.toNat 0 (am_get ω l1.toNat 0)) l1.toNat 1).toNat 0 (am_get (am_put ω l0.toNat 0 (am_get ω l1.toNat 0)) l0.toNat 1).toNat 0 (am_len (am_put ω l0.toNat 0 (am_get ω l1.toNat 0)) (am_get (am_put ω l0.toNat 0 (am_get ω l1.toNat 0)) l0.toNat 1)).toNat) l1.toNat 2).toNat 0 (am_get (am_cpy (am_put ω l0.toNat 0 (am_get ω l1.toNat 0)) (am_get (am_put ω l0.toNat 0 (am_get ω l1.toNat 0)) l1.toNat 1).toNat 0 (am_get (am_put ω l0.toNat 0 (am_get ω l1.toNat 0)) l0.toNat 1).toNat 0 (am_len (am_put ω l0.toNat 0 (am_get ω l1.toNat 0)) (am_get (am_put ω l0.toNat 0 (am_get ω l1.toNat 0)) l0.toNat 1)).toNat) l0.toNat 2).toNat 0 (am_len (am_cpy (am_put ω l0.toNat 0 (am_get ω l1.toNat 0)) (am_get (am_put ω l0.toNat 0 (am_get ω l1.toNat 0)) l1.toNat 1).toNat 0 (am_get (am_put ω l0.toNat 0 (am_get ω l1.toNat 0)) l0.toNat 1).toNat 0 (am_len (am_put ω l0.toNat 0 (am_get ω l1.toNat 0)) (am_get (am_put ω l0.toNat 0 (am_get ω l1.toNat 0)) l0.toNat 1)).toNat) (am_get (am_cpy (am_put ω l0.toNat 0 (am_get ω l1.toNat 0)) (am_get (am_put ω l0.toNat 0 (am_get ω l1.toNat 0)) l1.toNat 1).toNat 0 (am_get (am_put ω l0.toNat 0 (am_get ω l1.toNat 0)) l0.toNat 1).toNat 0 (am_len (am_put ω l0.toNat 0 (am_get ω l1.toNat 0)) (am_get (am_put ω l0.toNat 0 (am_get ω l1.toNat 0)) l0.toNat 1)).toNat) l0.toNat 2)).toNat) l0.toNat 3 (am_get (am_cpy (am_cpy (am_put ω l0.toNat 0 (am_get ω l1.toNat 0)) (am_get (am_put ω l0.toNat 0 (am_get ω l1.toNat 0)) l1.toNat 1).toNat 0 (am_get (am_put ω l0.toNat 0 (am_get ω l1.toNat 0)) l0.toNat 1).toNat 0 (am_len (am_put ω l0.toNat 0 (am_get ω l1.toNat 0)) (am_get (am_put ω l0.toNat 0 (am_get ω l1.toNat 0)) l0.toNat 1)).toNat) (am_get (am_cpy (am_put ω l0.toNat 0 (am_get ω l1.toNat 0)) (am_get (am_put ω l0.toNat 0 (am_get ω l1.toNat 0)) l1.toNat 1).toNat 0 (am_get (am_put ω l0.toNat 0 (am_get ω l1.toNat 0)) l0.toNat 1).toNat 0 (am_len (am_put ω l0.toNat 0 (am_get ω l1.toNat 0)) (am_get (am_put ω l0.toNat 0 (am_get ω l1.toNat 0)) l0.toNat 1)).toNat) l1.toNat 2).toNat 0 (am_get (am_cpy (am_put ω l0.toNat 0 (am_get ω l1.toNat 0)) (am_get (am_put ω l0.toNat 0 (am_get ω l1.toNat 0)) l1.toNat 1).toNat 0 (am_get (am_put ω l0.toNat 0 (am_get ω l1.toNat 0)) l0.toNat 1).toNat 0 (am_len (am_put ω l0.toNat 0 (am_get ω l1.toNat 0)) (am_get (am_put ω l0.toNat 0 (am_get ω l1.toNat 0)) l0.toNat 1)).toNat) l0.toNat 2).toNat 0 (am_len (am_cpy (am_put ω l0.toNat 0 (am_get ω l1.toNat 0)) (am_get (am_put ω l0.toNat 0 (am_get ω l1.toNat 0)) l1.toNat 1).toNat 0 (am_get (am_put ω l0.toNat 0 (am_get ω l1.toNat 0)) l0.toNat 1).toNat 0 (am_len (am_put ω l0.toNat 0 (am_get ω l1.toNat 0)) (am_get (am_put ω l0.toNat 0 (am_get ω l1.toNat 0)) l0.toNat 1)).toNat) (am_get (am_cpy (am_put ω l0.toNat 0 (am_get ω l1.toNat 0)) (am_get (am_put ω l0.toNat 0 (am_get ω l1.toNat 0)) l1.toNat 1).toNat 0 (am_get (am_put ω l0.toNat 0 (am_get ω l1.toNat 0)) l0.toNat 1).toNat 0 (am_len (am_put ω l0.toNat 0 (am_get ω l1.toNat 0)) (am_get (am_put ω l0.toNat 0 (am_get ω l1.toNat 0)) l0.toNat 1)).toNat) l0.toNat 2)).toNat) l1.toNat 3))) else none) else none) else none) else none := by
  refine Eq.trans (rr_aload_n rfl rfl) ?_
  refine Eq.trans (rr_aload_n rfl rfl) ?_
  refine Eq.trans (rr_getfi rfl rfl rfl h1) ?_
  refine Eq.trans (rr_putfieldi rfl rfl rfl h2) ?_
  refine Eq.trans (rr_aload_n rfl rfl) ?_
  refine Eq.trans (rr_getfr rfl rfl rfl h1) ?_
  refine Eq.trans (rr_iconst rfl rfl) ?_
  refine Eq.trans (rr_aload_n rfl rfl) ?_
  refine Eq.trans (rr_getfr rfl rfl rfl h2) ?_
  refine Eq.trans (rr_iconst rfl rfl) ?_
  refine Eq.trans (rr_aload_n rfl rfl) ?_
  refine Eq.trans (rr_getfr rfl rfl rfl h2) ?_
  refine ck_it (fun h => rr_arraylength rfl rfl h) (fun h => rr_arraylength_no rfl rfl h) (fun h3 => ?_)
  refine ck_it (fun h => rr_acpy rfl rfl rfl rfl h) (fun h => rr_acpy_no rfl rfl rfl rfl h) (fun h4 => ?_)
  refine Eq.trans (rr_aload_n rfl rfl) ?_
  refine Eq.trans (rr_getfr rfl rfl rfl h1) ?_
  refine Eq.trans (rr_iconst rfl rfl) ?_
  refine Eq.trans (rr_aload_n rfl rfl) ?_
  refine Eq.trans (rr_getfr rfl rfl rfl h2) ?_
  refine Eq.trans (rr_iconst rfl rfl) ?_
  refine Eq.trans (rr_aload_n rfl rfl) ?_
  refine Eq.trans (rr_getfr rfl rfl rfl h2) ?_
  refine ck_it (fun h => rr_arraylength rfl rfl h) (fun h => rr_arraylength_no rfl rfl h) (fun h5 => ?_)
  refine ck_it (fun h => rr_acpy rfl rfl rfl rfl h) (fun h => rr_acpy_no rfl rfl rfl rfl h) (fun h6 => ?_)
  refine Eq.trans (rr_aload_n rfl rfl) ?_
  refine Eq.trans (rr_aload_n rfl rfl) ?_
  refine Eq.trans (rr_getfi rfl rfl rfl h1) ?_
  refine Eq.trans (rr_putfieldi rfl rfl rfl h2) ?_
  rfl
theorem pX5_become_52 (l0 l1 : Int) (o2 : Option am_V) (ω : am_W) : am_run (53, 0) 52 ([some (.inr (.inr l0)), some (.inr (.inr l1)), o2], [], ω) = am_run (53, 0) 54 ([some (.inr (.inr l0)), some (.inr (.inr l1)), some (.inl 0)], [], ω) := by
  refine Eq.trans (rr_iconst rfl rfl) ?_
  refine Eq.trans (rr_istore_n (L' := [some (.inr (.inr l0)), some (.inr (.inr l1)), some (.inl 0)]) rfl rfl) ?_
  rfl
theorem pX5_become_54 (l0 l1 l2 : Int) (ω : am_W) (h1 : am_is ω l1 (5, 8) = true) (h2 : am_is ω l0 (5, 8) = true) : am_run (53, 0) 54 ([some (.inr (.inr l0)), some (.inr (.inr l1)), some (.inl l2)], [], ω) = if 6 ≤ l2 then (am_run (53, 0) 97 ([some (.inr (.inr l0)), some (.inr (.inr l1)), some (.inl l2)], [], am_put (am_put ω l0.toNat 5 (am_get ω l1.toNat 5)) l0.toNat 6 (am_get (am_put ω l0.toNat 5 (am_get ω l1.toNat 5)) l1.toNat 6))) else (if am_ina ω (am_get ω l0.toNat 4) l2 = true then (if am_ina ω (am_get ω l1.toNat 4) l2 = true then (if am_is ω (am_get ω (am_get ω l0.toNat 4).toNat l2.toNat) (4, 5) = true then (am_bv (am_run (47, 0) 0 ([some (.inr (.inr (am_get ω (am_get ω l0.toNat 4).toNat l2.toNat))), some (.inr (.inr (am_get ω (am_get ω l1.toNat 4).toNat l2.toNat)))], [], ω)) (fun ω1 => am_run (53, 0) 54 ([some (.inr (.inr l0)), some (.inr (.inr l1)), some (.inl (am_w (l2 + 1)))], [], ω1))) else none) else none) else none) := by
  refine Eq.trans (rr_iload_n rfl rfl) ?_
  refine Eq.trans (rr_bipush rfl rfl) ?_
  refine Eq.trans (rr_icmp_ge rfl rfl) (it_cg (fun _ => ?_) (fun _ => ?_))
  · refine Eq.trans (rr_aload_n rfl rfl) ?_
    refine Eq.trans (rr_aload_n rfl rfl) ?_
    refine Eq.trans (rr_getfi rfl rfl rfl h1) ?_
    refine Eq.trans (rr_putfieldi rfl rfl rfl h2) ?_
    refine Eq.trans (rr_aload_n rfl rfl) ?_
    refine Eq.trans (rr_aload_n rfl rfl) ?_
    refine Eq.trans (rr_getfi rfl rfl rfl h1) ?_
    refine Eq.trans (rr_putfieldi rfl rfl rfl h2) ?_
    rfl
  · refine Eq.trans (rr_aload_n rfl rfl) ?_
    refine Eq.trans (rr_getfr rfl rfl rfl h2) ?_
    refine Eq.trans (rr_iload_n rfl rfl) ?_
    refine ck_it (fun h => rr_aaload rfl h) (fun h => rr_aaload_no rfl h) (fun h3 => ?_)
    refine Eq.trans (rr_aload_n rfl rfl) ?_
    refine Eq.trans (rr_getfr rfl rfl rfl h1) ?_
    refine Eq.trans (rr_iload_n rfl rfl) ?_
    refine ck_it (fun h => rr_aaload rfl h) (fun h => rr_aaload_no rfl h) (fun h4 => ?_)
    refine ck_it (fun h => rr_invV0v (S' := []) (L' := [some (.inr (.inr (am_get ω (am_get ω l0.toNat 4).toNat l2.toNat))), some (.inr (.inr (am_get ω (am_get ω l1.toNat 4).toNat l2.toNat)))]) (m' := (47, 0)) rfl rfl rfl rfl rfl rfl h) (fun h => rr_invV0_no (S' := []) (L' := [some (.inr (.inr (am_get ω (am_get ω l0.toNat 4).toNat l2.toNat))), some (.inr (.inr (am_get ω (am_get ω l1.toNat 4).toNat l2.toNat)))]) (m' := (47, 0)) rfl rfl rfl rfl rfl rfl h) (fun h5 => ?_)
    refine bv_cg (fun ω1 => ?_)
    refine Eq.trans (rr_iinc (L' := [some (.inr (.inr l0)), some (.inr (.inr l1)), some (.inl (am_w (l2 + 1)))]) rfl rfl rfl) ?_
    refine Eq.trans (rr_goto rfl rfl) ?_
    rfl
theorem pX5_become_97 (l0 l1 l2 : Int) (ω : am_W) (h1 : am_is ω l1 (5, 8) = true) (h2 : am_is ω l0 (5, 8) = true) : am_run (53, 0) 97 ([some (.inr (.inr l0)), some (.inr (.inr l1)), some (.inl l2)], [], ω) = some (none, am_put ω l0.toNat 7 (am_get ω l1.toNat 7)) := by
  refine Eq.trans (rr_aload_n rfl rfl) ?_
  refine Eq.trans (rr_aload_n rfl rfl) ?_
  refine Eq.trans (rr_getfi rfl rfl rfl h1) ?_
  refine Eq.trans (rr_putfieldi rfl rfl rfl h2) ?_
  exact rr_return rfl rfl
theorem pX5_hasCircle_0 (l0 l1 : Int) (ω : am_W) (h1 : am_is ω l0 (5, 8) = true) : am_run (54, 0) 0 ([some (.inr (.inr l0)), some (.inl l1)], [], ω) = if l1 < 0 then (some (some (.inl 0), ω)) else (if (am_get ω l0.toNat 0) ≤ l1 then (some (some (.inl 0), ω)) else (some (some (.inl 1), ω))) := by
  refine Eq.trans (rr_iload_n rfl rfl) ?_
  refine Eq.trans (rr_if_lt rfl rfl) (it_cg (fun _ => ?_) (fun _ => ?_))
  · refine Eq.trans (rr_iconst rfl rfl) ?_
    exact rr_ireturn rfl rfl
  · refine Eq.trans (rr_iload_n rfl rfl) ?_
    refine Eq.trans (rr_aload_n rfl rfl) ?_
    refine Eq.trans (rr_getfi rfl rfl rfl h1) ?_
    refine Eq.trans (rr_icmp_ge rfl rfl) (it_cg (fun _ => ?_) (fun _ => ?_))
    · refine Eq.trans (rr_iconst rfl rfl) ?_
      exact rr_ireturn rfl rfl
    · refine Eq.trans (rr_iconst rfl rfl) ?_
      refine Eq.trans (rr_goto rfl rfl) ?_
      exact rr_ireturn rfl rfl
theorem pX5_hasCircleAbove_0 (l0 l1 : Int) (ω : am_W) (h1 : am_is ω l0 (5, 8) = true) : am_run (55, 0) 0 ([some (.inr (.inr l0)), some (.inl l1)], [], ω) = if l1 < 0 then (some (some (.inl 0), ω)) else (if (am_w ((am_get ω l0.toNat 0) - 1)) ≤ l1 then (some (some (.inl 0), ω)) else (some (some (.inl 1), ω))) := by
  refine Eq.trans (rr_iload_n rfl rfl) ?_
  refine Eq.trans (rr_if_lt rfl rfl) (it_cg (fun _ => ?_) (fun _ => ?_))
  · refine Eq.trans (rr_iconst rfl rfl) ?_
    exact rr_ireturn rfl rfl
  · refine Eq.trans (rr_iload_n rfl rfl) ?_
    refine Eq.trans (rr_aload_n rfl rfl) ?_
    refine Eq.trans (rr_getfi rfl rfl rfl h1) ?_
    refine Eq.trans (rr_iconst rfl rfl) ?_
    refine Eq.trans (rr_isub rfl) ?_
    refine Eq.trans (rr_icmp_ge rfl rfl) (it_cg (fun _ => ?_) (fun _ => ?_))
    · refine Eq.trans (rr_iconst rfl rfl) ?_
      exact rr_ireturn rfl rfl
    · refine Eq.trans (rr_iconst rfl rfl) ?_
      refine Eq.trans (rr_goto rfl rfl) ?_
      exact rr_ireturn rfl rfl
theorem pX5_hasCircleNext_0 (l0 l1 l2 : Int) (ω : am_W) (h1 : am_is ω l0 (5, 8) = true) : am_run (56, 0) 0 ([some (.inr (.inr l0)), some (.inl l1), some (.inl l2)], [], ω) = am_bi (am_run (62, 0) 0 ([some (.inr (.inr l0)), some (.inl l1), some (.inl l2)], [], ω)) (fun z1 ω1 => if am_is ω1 l0 (5, 8) = true then (am_bi (am_run (54, 0) 0 ([some (.inr (.inr l0)), some (.inl z1)], [], ω1)) (fun z2 ω2 => if am_nar 4 z2 = true then (some (some (.inl z2), ω2)) else none)) else none) := by
  refine Eq.trans (rr_aload_n rfl rfl) ?_
  refine Eq.trans (rr_aload_n rfl rfl) ?_
  refine Eq.trans (rr_iload_n rfl rfl) ?_
  refine Eq.trans (rr_iload_n rfl rfl) ?_
  refine Eq.trans (rr_invV0i (S' := [.inr (.inr l0)]) (L' := [some (.inr (.inr l0)), some (.inl l1), some (.inl l2)]) (m' := (62, 0)) rfl rfl rfl rfl rfl rfl h1) ?_
  refine bi_cg (fun z1 ω1 => ?_)
  refine ck_it (fun h => rr_invV0i (S' := []) (L' := [some (.inr (.inr l0)), some (.inl z1)]) (m' := (54, 0)) rfl rfl rfl rfl rfl rfl h) (fun h => rr_invV0_no (S' := []) (L' := [some (.inr (.inr l0)), some (.inl z1)]) (m' := (54, 0)) rfl rfl rfl rfl rfl rfl h) (fun h2 => ?_)
  refine bi_cg (fun z2 ω2 => ?_)
  exact ck_it (fun h => rr_ireturn rfl h) (fun h => rr_ireturn_no rfl h) (fun _ => rfl)
theorem pX5_hasPlace_0 (l0 l1 l2 : Int) (ω : am_W) (h1 : am_is ω l0 (5, 8) = true) : am_run (57, 0) 0 ([some (.inr (.inr l0)), some (.inl l1), some (.inl l2)], [], ω) = am_bi (am_run (54, 0) 0 ([some (.inr (.inr l0)), some (.inl l1)], [], ω)) (fun z1 ω1 => if z1 = 0 then (some (some (.inl 0), ω1)) else (if l2 < 0 then (some (some (.inl 0), ω1)) else (if am_is ω1 l0 (5, 8) = true then (if am_in ω1 (am_get ω1 l0.toNat 1) 100 l1 = true then (if (am_get ω1 (am_get ω1 l0.toNat 1).toNat l1.toNat) ≤ l2 then (some (some (.inl 0), ω1)) else (some (some (.inl 1), ω1))) else none) else none))) := by
  refine Eq.trans (rr_aload_n rfl rfl) ?_
  refine Eq.trans (rr_iload_n rfl rfl) ?_
  refine Eq.trans (rr_invV0i (S' := []) (L' := [some (.inr (.inr l0)), some (.inl l1)]) (m' := (54, 0)) rfl rfl rfl rfl rfl rfl h1) ?_
  refine bi_cg (fun z1 ω1 => ?_)
  refine Eq.trans (rr_if_eq rfl rfl) (it_cg (fun _ => ?_) (fun _ => ?_))
  · refine Eq.trans (rr_iconst rfl rfl) ?_
    exact rr_ireturn rfl rfl
  · refine Eq.trans (rr_iload_n rfl rfl) ?_
    refine Eq.trans (rr_if_lt rfl rfl) (it_cg (fun _ => ?_) (fun _ => ?_))
    · refine Eq.trans (rr_iconst rfl rfl) ?_
      exact rr_ireturn rfl rfl
    · refine Eq.trans (rr_iload_n rfl rfl) ?_
      refine Eq.trans (rr_aload_n rfl rfl) ?_
      refine ck_it (fun h => rr_getfr rfl rfl rfl h) (fun h => rr_getfield_no rfl rfl h) (fun h2 => ?_)
      refine Eq.trans (rr_iload_n rfl rfl) ?_
      refine ck_it (fun h => rr_iaload rfl rfl h) (fun h => rr_iaload_no rfl rfl h) (fun h3 => ?_)
      refine Eq.trans (rr_icmp_ge rfl rfl) (it_cg (fun _ => ?_) (fun _ => ?_))
      · refine Eq.trans (rr_iconst rfl rfl) ?_
        exact rr_ireturn rfl rfl
      · refine Eq.trans (rr_iconst rfl rfl) ?_
        refine Eq.trans (rr_goto rfl rfl) ?_
        exact rr_ireturn rfl rfl
theorem pX5_hasShip_0 (l0 l1 : Int) (ω : am_W) (h1 : am_is ω l0 (5, 8) = true) : am_run (58, 0) 0 ([some (.inr (.inr l0)), some (.inl l1)], [], ω) = if l1 < 0 then (some (some (.inl 0), ω)) else (if (am_get ω l0.toNat 3) ≤ l1 then (some (some (.inl 0), ω)) else (some (some (.inl 1), ω))) := by
  refine Eq.trans (rr_iload_n rfl rfl) ?_
  refine Eq.trans (rr_if_lt rfl rfl) (it_cg (fun _ => ?_) (fun _ => ?_))
  · refine Eq.trans (rr_iconst rfl rfl) ?_
    exact rr_ireturn rfl rfl
  · refine Eq.trans (rr_iload_n rfl rfl) ?_
    refine Eq.trans (rr_aload_n rfl rfl) ?_
    refine Eq.trans (rr_getfi rfl rfl rfl h1) ?_
    refine Eq.trans (rr_icmp_ge rfl rfl) (it_cg (fun _ => ?_) (fun _ => ?_))
    · refine Eq.trans (rr_iconst rfl rfl) ?_
      exact rr_ireturn rfl rfl
    · refine Eq.trans (rr_iconst rfl rfl) ?_
      refine Eq.trans (rr_goto rfl rfl) ?_
      exact rr_ireturn rfl rfl
theorem pX5_hasPair_0 (l0 l1 l2 : Int) (ω : am_W) (h1 : am_is ω l0 (5, 8) = true) : am_run (59, 0) 0 ([some (.inr (.inr l0)), some (.inl l1), some (.inl l2)], [], ω) = am_bi (am_run (58, 0) 0 ([some (.inr (.inr l0)), some (.inl l1)], [], ω)) (fun z1 ω1 => if z1 = 0 then (some (some (.inl 0), ω1)) else (if am_is ω1 l0 (5, 8) = true then (am_bi (am_run (58, 0) 0 ([some (.inr (.inr l0)), some (.inl l2)], [], ω1)) (fun z2 ω2 => if z2 = 0 then (some (some (.inl 0), ω2)) else (if l1 = l2 then (some (some (.inl 0), ω2)) else (some (some (.inl 1), ω2))))) else none)) := by
  refine Eq.trans (rr_aload_n rfl rfl) ?_
  refine Eq.trans (rr_iload_n rfl rfl) ?_
  refine Eq.trans (rr_invV0i (S' := []) (L' := [some (.inr (.inr l0)), some (.inl l1)]) (m' := (58, 0)) rfl rfl rfl rfl rfl rfl h1) ?_
  refine bi_cg (fun z1 ω1 => ?_)
  refine Eq.trans (rr_if_eq rfl rfl) (it_cg (fun _ => ?_) (fun _ => ?_))
  · refine Eq.trans (rr_iconst rfl rfl) ?_
    exact rr_ireturn rfl rfl
  · refine Eq.trans (rr_aload_n rfl rfl) ?_
    refine Eq.trans (rr_iload_n rfl rfl) ?_
    refine ck_it (fun h => rr_invV0i (S' := []) (L' := [some (.inr (.inr l0)), some (.inl l2)]) (m' := (58, 0)) rfl rfl rfl rfl rfl rfl h) (fun h => rr_invV0_no (S' := []) (L' := [some (.inr (.inr l0)), some (.inl l2)]) (m' := (58, 0)) rfl rfl rfl rfl rfl rfl h) (fun h2 => ?_)
    refine bi_cg (fun z2 ω2 => ?_)
    refine Eq.trans (rr_if_eq rfl rfl) (it_cg (fun _ => ?_) (fun _ => ?_))
    · refine Eq.trans (rr_iconst rfl rfl) ?_
      exact rr_ireturn rfl rfl
    · refine Eq.trans (rr_iload_n rfl rfl) ?_
      refine Eq.trans (rr_iload_n rfl rfl) ?_
      refine Eq.trans (rr_icmp_eq rfl rfl) (it_cg (fun _ => ?_) (fun _ => ?_))
      · refine Eq.trans (rr_iconst rfl rfl) ?_
        exact rr_ireturn rfl rfl
      · refine Eq.trans (rr_iconst rfl rfl) ?_
        refine Eq.trans (rr_goto rfl rfl) ?_
        exact rr_ireturn rfl rfl
theorem pX5_isFull_0 (l0 : Int) (ω : am_W) (h1 : am_is ω l0 (5, 8) = true) : am_run (60, 0) 0 ([some (.inr (.inr l0))], [], ω) = if (am_get ω l0.toNat 3) < 6 then (some (some (.inl 0), ω)) else (some (some (.inl 1), ω)) := by
  refine Eq.trans (rr_aload_n rfl rfl) ?_
  refine Eq.trans (rr_getfi rfl rfl rfl h1) ?_
  refine Eq.trans (rr_bipush rfl rfl) ?_
  refine Eq.trans (rr_icmp_lt rfl rfl) (it_cg (fun _ => ?_) (fun _ => ?_))
  · refine Eq.trans (rr_iconst rfl rfl) ?_
    exact rr_ireturn rfl rfl
  · refine Eq.trans (rr_iconst rfl rfl) ?_
    refine Eq.trans (rr_goto rfl rfl) ?_
    exact rr_ireturn rfl rfl
theorem pX5_timeOf_0 (l0 l1 : Int) (ω : am_W) (h1 : am_is ω l0 (5, 8) = true) : am_run (61, 0) 0 ([some (.inr (.inr l0)), some (.inl l1)], [], ω) = if l1 < 0 then (some (some (.inl 2), ω)) else (if (am_get ω l0.toNat 0) ≤ l1 then (some (some (.inl 2), ω)) else (if am_in ω (am_get ω l0.toNat 1) 100 l1 = true then (some (some (.inl (am_get ω (am_get ω l0.toNat 1).toNat l1.toNat)), ω)) else none)) := by
  refine Eq.trans (rr_iload_n rfl rfl) ?_
  refine Eq.trans (rr_if_lt rfl rfl) (it_cg (fun _ => ?_) (fun _ => ?_))
  · refine Eq.trans (rr_iconst rfl rfl) ?_
    exact rr_ireturn rfl rfl
  · refine Eq.trans (rr_iload_n rfl rfl) ?_
    refine Eq.trans (rr_aload_n rfl rfl) ?_
    refine Eq.trans (rr_getfi rfl rfl rfl h1) ?_
    refine Eq.trans (rr_icmp_ge rfl rfl) (it_cg (fun _ => ?_) (fun _ => ?_))
    · refine Eq.trans (rr_iconst rfl rfl) ?_
      exact rr_ireturn rfl rfl
    · refine Eq.trans (rr_aload_n rfl rfl) ?_
      refine Eq.trans (rr_getfr rfl rfl rfl h1) ?_
      refine Eq.trans (rr_iload_n rfl rfl) ?_
      refine ck_it (fun h => rr_iaload rfl rfl h) (fun h => rr_iaload_no rfl rfl h) (fun h2 => ?_)
      refine Eq.trans (rr_goto rfl rfl) ?_
      exact rr_ireturn rfl rfl
theorem pX5_next_0 (l0 l1 l2 : Int) (ω : am_W) : am_run (62, 0) 0 ([some (.inr (.inr l0)), some (.inl l1), some (.inl l2)], [], ω) = if ¬ l2 = 1 then (some (some (.inl (am_w (l1 - 1))), ω)) else (some (some (.inl (am_w (l1 + 1))), ω)) := by
  refine Eq.trans (rr_iload_n rfl rfl) ?_
  refine Eq.trans (rr_iconst rfl rfl) ?_
  refine Eq.trans (rr_icmp_ne rfl rfl) (it_cg (fun _ => ?_) (fun _ => ?_))
  · refine Eq.trans (rr_iload_n rfl rfl) ?_
    refine Eq.trans (rr_iconst rfl rfl) ?_
    refine Eq.trans (rr_isub rfl) ?_
    exact rr_ireturn rfl rfl
  · refine Eq.trans (rr_iload_n rfl rfl) ?_
    refine Eq.trans (rr_iconst rfl rfl) ?_
    refine Eq.trans (rr_iadd rfl) ?_
    refine Eq.trans (rr_goto rfl rfl) ?_
    exact rr_ireturn rfl rfl
theorem pX5_addShip_0 (l0 l1 l2 l3 l4 : Int) (ω : am_W) (h1 : am_is ω l0 (5, 8) = true) : am_run (63, 0) 0 ([some (.inr (.inr l0)), some (.inl l1), some (.inl l2), some (.inl l3), some (.inl l4), none], [], ω) = am_bi (am_run (60, 0) 0 ([some (.inr (.inr l0))], [], ω)) (fun z1 ω1 => if z1 = 0 then (if am_is ω1 l0 (5, 8) = true then (if am_ina ω1 (am_get ω1 l0.toNat 4) (am_get ω1 l0.toNat 3) = true then (if am_is ω1 (am_get ω1 (am_get ω1 l0.toNat 4).toNat (am_get ω1 l0.toNat 3).toNat) (4, 5) = true then (am_run (63, 0) 32 ([some (.inr (.inr l0)), some (.inl l1), some (.inl l2), some (.inl l3), some (.inl l4), some (.inr (.inr (am_get ω1 (am_get ω1 l0.toNat 4).toNat (am_get ω1 l0.toNat 3).toNat)))], [], am_put (am_put ω1 (am_get ω1 (am_get ω1 l0.toNat 4).toNat (am_get ω1 l0.toNat 3).toNat).toNat 0 l1) (am_get ω1 (am_get ω1 l0.toNat 4).toNat (am_get ω1 l0.toNat 3).toNat).toNat 1 l2)) else none) else none) else none) else (some (some (.inl ((-1))), ω1))) := by
  refine Eq.trans (rr_aload_n rfl rfl) ?_
  refine Eq.trans (rr_invV0i (S' := []) (L' := [some (.inr (.inr l0))]) (m' := (60, 0)) rfl rfl rfl rfl rfl rfl h1) ?_
  refine bi_cg (fun z1 ω1 => ?_)
  refine Eq.trans (rr_if_eq rfl rfl) (it_cg (fun _ => ?_) (fun _ => ?_))
  · refine Eq.trans (rr_aload_n rfl rfl) ?_
    refine ck_it (fun h => rr_getfr rfl rfl rfl h) (fun h => rr_getfield_no rfl rfl h) (fun h2 => ?_)
    refine Eq.trans (rr_aload_n rfl rfl) ?_
    refine Eq.trans (rr_getfi rfl rfl rfl h2) ?_
    refine ck_it (fun h => rr_aaload rfl h) (fun h => rr_aaload_no rfl h) (fun h3 => ?_)
    refine Eq.trans (rr_astore (L' := [some (.inr (.inr l0)), some (.inl l1), some (.inl l2), some (.inl l3), some (.inl l4), some (.inr (.inr (am_get ω1 (am_get ω1 l0.toNat 4).toNat (am_get ω1 l0.toNat 3).toNat)))]) rfl rfl) ?_
    refine Eq.trans (rr_aload rfl rfl) ?_
    refine Eq.trans (rr_iload_n rfl rfl) ?_
    refine ck_it (fun h => rr_putfieldi rfl rfl rfl h) (fun h => rr_putfieldi_no rfl rfl h) (fun h4 => ?_)
    refine Eq.trans (rr_aload rfl rfl) ?_
    refine Eq.trans (rr_iload_n rfl rfl) ?_
    refine Eq.trans (rr_putfieldi rfl rfl rfl h4) ?_
    rfl
  · refine Eq.trans (rr_iconst rfl rfl) ?_
    exact rr_ireturn rfl rfl
theorem pX5_addShip_32 (l0 l1 l2 l3 l4 l5 : Int) (ω : am_W) (h1 : am_is ω l5 (4, 5) = true) : am_run (63, 0) 32 ([some (.inr (.inr l0)), some (.inl l1), some (.inl l2), some (.inl l3), some (.inl l4), some (.inr (.inr l5))], [], ω) = am_run (63, 0) 45 ([some (.inr (.inr l0)), some (.inl l1), some (.inl l2), some (.inl l3), some (.inl l4), some (.inr (.inr l5))], [], am_put (am_put ω l5.toNat 2 l3) l5.toNat 3 l4) := by
  refine Eq.trans (rr_aload rfl rfl) ?_
  refine Eq.trans (rr_iload_n rfl rfl) ?_
  refine Eq.trans (rr_putfieldi rfl rfl rfl h1) ?_
  refine Eq.trans (rr_aload rfl rfl) ?_
  refine Eq.trans (rr_iload rfl rfl) ?_
  refine Eq.trans (rr_putfieldi rfl rfl rfl h1) ?_
  rfl
theorem pX5_addShip_45 (l0 l1 l2 l3 l4 l5 : Int) (ω : am_W) (h1 : am_is ω l5 (4, 5) = true) (h2 : am_is ω l0 (5, 8) = true) : am_run (63, 0) 45 ([some (.inr (.inr l0)), some (.inl l1), some (.inl l2), some (.inl l3), some (.inl l4), some (.inr (.inr l5))], [], ω) = am_run (63, 0) 61 ([some (.inr (.inr l0)), some (.inl l1), some (.inl l2), some (.inl l3), some (.inl l4), some (.inr (.inr l5))], [], am_put (am_put ω l5.toNat 4 0) l0.toNat 3 (am_w ((am_get (am_put ω l5.toNat 4 0) l0.toNat 3) + 1))) := by
  refine Eq.trans (rr_aload rfl rfl) ?_
  refine Eq.trans (rr_iconst rfl rfl) ?_
  refine Eq.trans (rr_putfieldi rfl rfl rfl h1) ?_
  refine Eq.trans (rr_aload_n rfl rfl) ?_
  refine Eq.trans (rr_dupr rfl) ?_
  refine Eq.trans (rr_getfi rfl rfl rfl h2) ?_
  refine Eq.trans (rr_iconst rfl rfl) ?_
  refine Eq.trans (rr_iadd rfl) ?_
  refine Eq.trans (rr_putfieldi rfl rfl rfl h2) ?_
  rfl
theorem pX5_addShip_61 (l0 l1 l2 l3 l4 l5 : Int) (ω : am_W) (h1 : am_is ω l0 (5, 8) = true) : am_run (63, 0) 61 ([some (.inr (.inr l0)), some (.inl l1), some (.inl l2), some (.inl l3), some (.inl l4), some (.inr (.inr l5))], [], ω) = some (some (.inl (am_w ((am_get ω l0.toNat 3) - 1))), ω) := by
  refine Eq.trans (rr_aload_n rfl rfl) ?_
  refine Eq.trans (rr_getfi rfl rfl rfl h1) ?_
  refine Eq.trans (rr_iconst rfl rfl) ?_
  refine Eq.trans (rr_isub rfl) ?_
  exact rr_ireturn rfl rfl
theorem pX5_shipsOn_0 (l0 l1 : Int) (ω : am_W) : am_run (64, 0) 0 ([some (.inr (.inr l0)), some (.inl l1), none, none], [], ω) = am_run (64, 0) 4 ([some (.inr (.inr l0)), some (.inl l1), some (.inl 0), some (.inl 0)], [], ω) := by
  refine Eq.trans (rr_iconst rfl rfl) ?_
  refine Eq.trans (rr_istore_n (L' := [some (.inr (.inr l0)), some (.inl l1), some (.inl 0), none]) rfl rfl) ?_
  refine Eq.trans (rr_iconst rfl rfl) ?_
  refine Eq.trans (rr_istore_n (L' := [some (.inr (.inr l0)), some (.inl l1), some (.inl 0), some (.inl 0)]) rfl rfl) ?_
  rfl
theorem pX5_shipsOn_4 (l0 l1 l2 l3 : Int) (ω : am_W) (h1 : am_is ω l0 (5, 8) = true) : am_run (64, 0) 4 ([some (.inr (.inr l0)), some (.inl l1), some (.inl l2), some (.inl l3)], [], ω) = if (am_get ω l0.toNat 3) ≤ l3 then (some (some (.inl l2), ω)) else (if am_ina ω (am_get ω l0.toNat 4) l3 = true then (if am_is ω (am_get ω (am_get ω l0.toNat 4).toNat l3.toNat) (4, 5) = true then (if ¬ (am_get ω (am_get ω (am_get ω l0.toNat 4).toNat l3.toNat).toNat 1) = l1 then (am_run (64, 0) 4 ([some (.inr (.inr l0)), some (.inl l1), some (.inl l2), some (.inl (am_w (l3 + 1)))], [], ω)) else (am_run (64, 0) 4 ([some (.inr (.inr l0)), some (.inl l1), some (.inl (am_or l2 (am_shl 1 l3))), some (.inl (am_w (l3 + 1)))], [], ω))) else none) else none) := by
  refine Eq.trans (rr_iload_n rfl rfl) ?_
  refine Eq.trans (rr_aload_n rfl rfl) ?_
  refine Eq.trans (rr_getfi rfl rfl rfl h1) ?_
  refine Eq.trans (rr_icmp_ge rfl rfl) (it_cg (fun _ => ?_) (fun _ => ?_))
  · refine Eq.trans (rr_iload_n rfl rfl) ?_
    exact rr_ireturn rfl rfl
  · refine Eq.trans (rr_aload_n rfl rfl) ?_
    refine Eq.trans (rr_getfr rfl rfl rfl h1) ?_
    refine Eq.trans (rr_iload_n rfl rfl) ?_
    refine ck_it (fun h => rr_aaload rfl h) (fun h => rr_aaload_no rfl h) (fun h2 => ?_)
    refine ck_it (fun h => rr_getfi rfl rfl rfl h) (fun h => rr_getfield_no rfl rfl h) (fun h3 => ?_)
    refine Eq.trans (rr_iload_n rfl rfl) ?_
    refine Eq.trans (rr_icmp_ne rfl rfl) (it_cg (fun _ => ?_) (fun _ => ?_))
    · refine Eq.trans (rr_iinc (L' := [some (.inr (.inr l0)), some (.inl l1), some (.inl l2), some (.inl (am_w (l3 + 1)))]) rfl rfl rfl) ?_
      refine Eq.trans (rr_goto rfl rfl) ?_
      rfl
    · refine Eq.trans (rr_iload_n rfl rfl) ?_
      refine Eq.trans (rr_iconst rfl rfl) ?_
      refine Eq.trans (rr_iload_n rfl rfl) ?_
      refine Eq.trans (rr_ishl rfl) ?_
      refine Eq.trans (rr_ior rfl) ?_
      refine Eq.trans (rr_istore_n (L' := [some (.inr (.inr l0)), some (.inl l1), some (.inl (am_or l2 (am_shl 1 l3))), some (.inl l3)]) rfl rfl) ?_
      refine Eq.trans (rr_iinc (L' := [some (.inr (.inr l0)), some (.inl l1), some (.inl (am_or l2 (am_shl 1 l3))), some (.inl (am_w (l3 + 1)))]) rfl rfl rfl) ?_
      refine Eq.trans (rr_goto rfl rfl) ?_
      rfl
theorem pX5_busyShips_0 (l0 : Int) (ω : am_W) : am_run (65, 0) 0 ([some (.inr (.inr l0)), none, none], [], ω) = am_run (65, 0) 4 ([some (.inr (.inr l0)), some (.inl 0), some (.inl 0)], [], ω) := by
  refine Eq.trans (rr_iconst rfl rfl) ?_
  refine Eq.trans (rr_istore_n (L' := [some (.inr (.inr l0)), some (.inl 0), none]) rfl rfl) ?_
  refine Eq.trans (rr_iconst rfl rfl) ?_
  refine Eq.trans (rr_istore_n (L' := [some (.inr (.inr l0)), some (.inl 0), some (.inl 0)]) rfl rfl) ?_
  rfl
theorem pX5_busyShips_4 (l0 l1 l2 : Int) (ω : am_W) (h1 : am_is ω l0 (5, 8) = true) : am_run (65, 0) 4 ([some (.inr (.inr l0)), some (.inl l1), some (.inl l2)], [], ω) = if (am_get ω l0.toNat 3) ≤ l2 then (some (some (.inl l1), ω)) else (if am_ina ω (am_get ω l0.toNat 4) l2 = true then (if am_is ω (am_get ω (am_get ω l0.toNat 4).toNat l2.toNat) (4, 5) = true then (if (am_get ω (am_get ω (am_get ω l0.toNat 4).toNat l2.toNat).toNat 4) ≤ 0 then (am_run (65, 0) 4 ([some (.inr (.inr l0)), some (.inl l1), some (.inl (am_w (l2 + 1)))], [], ω)) else (am_run (65, 0) 4 ([some (.inr (.inr l0)), some (.inl (am_or l1 (am_shl 1 l2))), some (.inl (am_w (l2 + 1)))], [], ω))) else none) else none) := by
  refine Eq.trans (rr_iload_n rfl rfl) ?_
  refine Eq.trans (rr_aload_n rfl rfl) ?_
  refine Eq.trans (rr_getfi rfl rfl rfl h1) ?_
  refine Eq.trans (rr_icmp_ge rfl rfl) (it_cg (fun _ => ?_) (fun _ => ?_))
  · refine Eq.trans (rr_iload_n rfl rfl) ?_
    exact rr_ireturn rfl rfl
  · refine Eq.trans (rr_aload_n rfl rfl) ?_
    refine Eq.trans (rr_getfr rfl rfl rfl h1) ?_
    refine Eq.trans (rr_iload_n rfl rfl) ?_
    refine ck_it (fun h => rr_aaload rfl h) (fun h => rr_aaload_no rfl h) (fun h2 => ?_)
    refine ck_it (fun h => rr_getfi rfl rfl rfl h) (fun h => rr_getfield_no rfl rfl h) (fun h3 => ?_)
    refine Eq.trans (rr_if_le rfl rfl) (it_cg (fun _ => ?_) (fun _ => ?_))
    · refine Eq.trans (rr_iinc (L' := [some (.inr (.inr l0)), some (.inl l1), some (.inl (am_w (l2 + 1)))]) rfl rfl rfl) ?_
      refine Eq.trans (rr_goto rfl rfl) ?_
      rfl
    · refine Eq.trans (rr_iload_n rfl rfl) ?_
      refine Eq.trans (rr_iconst rfl rfl) ?_
      refine Eq.trans (rr_iload_n rfl rfl) ?_
      refine Eq.trans (rr_ishl rfl) ?_
      refine Eq.trans (rr_ior rfl) ?_
      refine Eq.trans (rr_istore_n (L' := [some (.inr (.inr l0)), some (.inl (am_or l1 (am_shl 1 l2))), some (.inl l2)]) rfl rfl) ?_
      refine Eq.trans (rr_iinc (L' := [some (.inr (.inr l0)), some (.inl (am_or l1 (am_shl 1 l2))), some (.inl (am_w (l2 + 1)))]) rfl rfl rfl) ?_
      refine Eq.trans (rr_goto rfl rfl) ?_
      rfl
theorem pX5_idleOn_0 (l0 l1 : Int) (ω : am_W) (h1 : am_is ω l0 (5, 8) = true) : am_run (66, 0) 0 ([some (.inr (.inr l0)), some (.inl l1)], [], ω) = am_bi (am_run (64, 0) 0 ([some (.inr (.inr l0)), some (.inl l1), none, none], [], ω)) (fun z1 ω1 => if am_is ω1 l0 (5, 8) = true then (am_bi (am_run (65, 0) 0 ([some (.inr (.inr l0)), none, none], [], ω1)) (fun z2 ω2 => some (some (.inl (am_and z1 (am_xor z2 ((-1))))), ω2))) else none) := by
  refine Eq.trans (rr_aload_n rfl rfl) ?_
  refine Eq.trans (rr_iload_n rfl rfl) ?_
  refine Eq.trans (rr_invV0i (S' := []) (L' := [some (.inr (.inr l0)), some (.inl l1), none, none]) (m' := (64, 0)) rfl rfl rfl rfl rfl rfl h1) ?_
  refine bi_cg (fun z1 ω1 => ?_)
  refine Eq.trans (rr_aload_n rfl rfl) ?_
  refine ck_it (fun h => rr_invV0i (S' := [.inl z1]) (L' := [some (.inr (.inr l0)), none, none]) (m' := (65, 0)) rfl rfl rfl rfl rfl rfl h) (fun h => rr_invV0_no (S' := [.inl z1]) (L' := [some (.inr (.inr l0)), none, none]) (m' := (65, 0)) rfl rfl rfl rfl rfl rfl h) (fun h2 => ?_)
  refine bi_cg (fun z2 ω2 => ?_)
  refine Eq.trans (rr_iconst rfl rfl) ?_
  refine Eq.trans (rr_ixor rfl) ?_
  refine Eq.trans (rr_iand rfl) ?_
  exact rr_ireturn rfl rfl
theorem pX5_allDrops_0 (l0 : Int) (ω : am_W) : am_run (67, 0) 0 ([some (.inr (.inr l0)), none, none], [], ω) = am_run (67, 0) 4 ([some (.inr (.inr l0)), some (.inl 0), some (.inl 0)], [], ω) := by
  refine Eq.trans (rr_iconst rfl rfl) ?_
  refine Eq.trans (rr_istore_n (L' := [some (.inr (.inr l0)), some (.inl 0), none]) rfl rfl) ?_
  refine Eq.trans (rr_iconst rfl rfl) ?_
  refine Eq.trans (rr_istore_n (L' := [some (.inr (.inr l0)), some (.inl 0), some (.inl 0)]) rfl rfl) ?_
  rfl
theorem pX5_allDrops_4 (l0 l1 l2 : Int) (ω : am_W) (h1 : am_is ω l0 (5, 8) = true) : am_run (67, 0) 4 ([some (.inr (.inr l0)), some (.inl l1), some (.inl l2)], [], ω) = if (am_get ω l0.toNat 3) ≤ l2 then (some (some (.inl l1), ω)) else (if am_ina ω (am_get ω l0.toNat 4) l2 = true then (if am_is ω (am_get ω (am_get ω l0.toNat 4).toNat l2.toNat) (4, 5) = true then (am_run (67, 0) 4 ([some (.inr (.inr l0)), some (.inl (am_w (l1 + (am_get ω (am_get ω (am_get ω l0.toNat 4).toNat l2.toNat).toNat 3)))), some (.inl (am_w (l2 + 1)))], [], ω)) else none) else none) := by
  refine Eq.trans (rr_iload_n rfl rfl) ?_
  refine Eq.trans (rr_aload_n rfl rfl) ?_
  refine Eq.trans (rr_getfi rfl rfl rfl h1) ?_
  refine Eq.trans (rr_icmp_ge rfl rfl) (it_cg (fun _ => ?_) (fun _ => ?_))
  · refine Eq.trans (rr_iload_n rfl rfl) ?_
    exact rr_ireturn rfl rfl
  · refine Eq.trans (rr_iload_n rfl rfl) ?_
    refine Eq.trans (rr_aload_n rfl rfl) ?_
    refine Eq.trans (rr_getfr rfl rfl rfl h1) ?_
    refine Eq.trans (rr_iload_n rfl rfl) ?_
    refine ck_it (fun h => rr_aaload rfl h) (fun h => rr_aaload_no rfl h) (fun h2 => ?_)
    refine ck_it (fun h => rr_getfi rfl rfl rfl h) (fun h => rr_getfield_no rfl rfl h) (fun h3 => ?_)
    refine Eq.trans (rr_iadd rfl) ?_
    refine Eq.trans (rr_istore_n (L' := [some (.inr (.inr l0)), some (.inl (am_w (l1 + (am_get ω (am_get ω (am_get ω l0.toNat 4).toNat l2.toNat).toNat 3)))), some (.inl l2)]) rfl rfl) ?_
    refine Eq.trans (rr_iinc (L' := [some (.inr (.inr l0)), some (.inl (am_w (l1 + (am_get ω (am_get ω (am_get ω l0.toNat 4).toNat l2.toNat).toNat 3)))), some (.inl (am_w (l2 + 1)))]) rfl rfl rfl) ?_
    refine Eq.trans (rr_goto rfl rfl) ?_
    rfl
theorem pX5_countMet_0 (l0 l1 : Int) (ω : am_W) : am_run (68, 0) 0 ([some (.inr (.inr l0)), some (.inl l1), none, none], [], ω) = am_run (68, 0) 4 ([some (.inr (.inr l0)), some (.inl l1), some (.inl 0), some (.inl 0)], [], ω) := by
  refine Eq.trans (rr_iconst rfl rfl) ?_
  refine Eq.trans (rr_istore_n (L' := [some (.inr (.inr l0)), some (.inl l1), some (.inl 0), none]) rfl rfl) ?_
  refine Eq.trans (rr_iconst rfl rfl) ?_
  refine Eq.trans (rr_istore_n (L' := [some (.inr (.inr l0)), some (.inl l1), some (.inl 0), some (.inl 0)]) rfl rfl) ?_
  rfl
theorem pX5_countMet_4 (l0 l1 l2 l3 : Int) (ω : am_W) (h1 : am_is ω l0 (5, 8) = true) : am_run (68, 0) 4 ([some (.inr (.inr l0)), some (.inl l1), some (.inl l2), some (.inl l3)], [], ω) = if (am_get ω l0.toNat 3) ≤ l3 then (some (some (.inl l2), ω)) else (if l3 = l1 then (am_run (68, 0) 4 ([some (.inr (.inr l0)), some (.inl l1), some (.inl l2), some (.inl (am_w (l3 + 1)))], [], ω)) else (if am_ina ω (am_get ω l0.toNat 4) l3 = true then (if am_ina ω (am_get ω l0.toNat 4) l1 = true then (if am_is ω (am_get ω (am_get ω l0.toNat 4).toNat l3.toNat) (4, 5) = true then (am_bi (am_run (48, 0) 0 ([some (.inr (.inr (am_get ω (am_get ω l0.toNat 4).toNat l3.toNat))), some (.inr (.inr (am_get ω (am_get ω l0.toNat 4).toNat l1.toNat)))], [], ω)) (fun z1 ω1 => if z1 = 0 then (am_run (68, 0) 4 ([some (.inr (.inr l0)), some (.inl l1), some (.inl l2), some (.inl (am_w (l3 + 1)))], [], ω1)) else (am_run (68, 0) 4 ([some (.inr (.inr l0)), some (.inl l1), some (.inl (am_w (l2 + 1))), some (.inl (am_w (l3 + 1)))], [], ω1)))) else none) else none) else none)) := by
  refine Eq.trans (rr_iload_n rfl rfl) ?_
  refine Eq.trans (rr_aload_n rfl rfl) ?_
  refine Eq.trans (rr_getfi rfl rfl rfl h1) ?_
  refine Eq.trans (rr_icmp_ge rfl rfl) (it_cg (fun _ => ?_) (fun _ => ?_))
  · refine Eq.trans (rr_iload_n rfl rfl) ?_
    exact rr_ireturn rfl rfl
  · refine Eq.trans (rr_iload_n rfl rfl) ?_
    refine Eq.trans (rr_iload_n rfl rfl) ?_
    refine Eq.trans (rr_icmp_eq rfl rfl) (it_cg (fun _ => ?_) (fun _ => ?_))
    · refine Eq.trans (rr_iinc (L' := [some (.inr (.inr l0)), some (.inl l1), some (.inl l2), some (.inl (am_w (l3 + 1)))]) rfl rfl rfl) ?_
      refine Eq.trans (rr_goto rfl rfl) ?_
      rfl
    · refine Eq.trans (rr_aload_n rfl rfl) ?_
      refine Eq.trans (rr_getfr rfl rfl rfl h1) ?_
      refine Eq.trans (rr_iload_n rfl rfl) ?_
      refine ck_it (fun h => rr_aaload rfl h) (fun h => rr_aaload_no rfl h) (fun h2 => ?_)
      refine Eq.trans (rr_aload_n rfl rfl) ?_
      refine Eq.trans (rr_getfr rfl rfl rfl h1) ?_
      refine Eq.trans (rr_iload_n rfl rfl) ?_
      refine ck_it (fun h => rr_aaload rfl h) (fun h => rr_aaload_no rfl h) (fun h3 => ?_)
      refine ck_it (fun h => rr_invV0i (S' := []) (L' := [some (.inr (.inr (am_get ω (am_get ω l0.toNat 4).toNat l3.toNat))), some (.inr (.inr (am_get ω (am_get ω l0.toNat 4).toNat l1.toNat)))]) (m' := (48, 0)) rfl rfl rfl rfl rfl rfl h) (fun h => rr_invV0_no (S' := []) (L' := [some (.inr (.inr (am_get ω (am_get ω l0.toNat 4).toNat l3.toNat))), some (.inr (.inr (am_get ω (am_get ω l0.toNat 4).toNat l1.toNat)))]) (m' := (48, 0)) rfl rfl rfl rfl rfl rfl h) (fun h4 => ?_)
      refine bi_cg (fun z1 ω1 => ?_)
      refine Eq.trans (rr_if_eq rfl rfl) (it_cg (fun _ => ?_) (fun _ => ?_))
      · refine Eq.trans (rr_iinc (L' := [some (.inr (.inr l0)), some (.inl l1), some (.inl l2), some (.inl (am_w (l3 + 1)))]) rfl rfl rfl) ?_
        refine Eq.trans (rr_goto rfl rfl) ?_
        rfl
      · refine Eq.trans (rr_iinc (L' := [some (.inr (.inr l0)), some (.inl l1), some (.inl (am_w (l2 + 1))), some (.inl l3)]) rfl rfl rfl) ?_
        refine Eq.trans (rr_iinc (L' := [some (.inr (.inr l0)), some (.inl l1), some (.inl (am_w (l2 + 1))), some (.inl (am_w (l3 + 1)))]) rfl rfl rfl) ?_
        refine Eq.trans (rr_goto rfl rfl) ?_
        rfl
theorem pX5_price_0 (l0 l1 l2 l3 : Int) (ω : am_W) (h1 : am_is ω l0 (5, 8) = true) : am_run (69, 0) 0 ([some (.inr (.inr l0)), some (.inr (.inr l1)), some (.inl l2), some (.inl l3), none], [], ω) = am_bi (am_run (62, 0) 0 ([some (.inr (.inr l0)), some (.inl l2), some (.inl l3)], [], ω)) (fun z1 ω1 => am_bi (am_run (237, 0) 0 ([some (.inl l2), some (.inl z1)], [], ω1)) (fun z2 ω2 => if am_is ω2 l0 (5, 8) = true then (am_bi (am_run (55, 0) 0 ([some (.inr (.inr l0)), some (.inl z2)], [], ω2)) (fun z3 ω3 => if ¬ z3 = 0 then (if am_is ω3 l1 (4, 5) = true then (am_bi (am_run (49, 0) 0 ([some (.inr (.inr l1)), some (.inl 1)], [], ω3)) (fun z4 ω4 => if z4 = 0 then (if am_is ω4 l0 (5, 8) = true then (if am_in ω4 (am_get ω4 l0.toNat 2) 100 z2 = true then (some (some (.inl (am_get ω4 (am_get ω4 l0.toNat 2).toNat z2.toNat)), ω4)) else none) else none) else (if am_is ω4 l0 (5, 8) = true then (if am_in ω4 (am_get ω4 l0.toNat 2) 100 z2 = true then (if 2 = 0 then none else (some (some (.inl (am_w ((am_w ((am_get ω4 (am_get ω4 l0.toNat 2).toNat z2.toNat) + 1)).tdiv 2))), ω4))) else none) else none))) else none) else (some (some (.inl ((-1))), ω3)))) else none)) := by
  refine Eq.trans (rr_iload_n rfl rfl) ?_
  refine Eq.trans (rr_aload_n rfl rfl) ?_
  refine Eq.trans (rr_iload_n rfl rfl) ?_
  refine Eq.trans (rr_iload_n rfl rfl) ?_
  refine Eq.trans (rr_invV0i (S' := [.inl l2]) (L' := [some (.inr (.inr l0)), some (.inl l2), some (.inl l3)]) (m' := (62, 0)) rfl rfl rfl rfl rfl rfl h1) ?_
  refine bi_cg (fun z1 ω1 => ?_)
  refine Eq.trans (rr_invS2i (S' := []) (L' := [some (.inl l2), some (.inl z1)]) (m' := (237, 0)) rfl rfl rfl rfl rfl rfl) ?_
  refine bi_cg (fun z2 ω2 => ?_)
  refine Eq.trans (rr_istore (L' := [some (.inr (.inr l0)), some (.inr (.inr l1)), some (.inl l2), some (.inl l3), some (.inl z2)]) rfl rfl) ?_
  refine Eq.trans (rr_aload_n rfl rfl) ?_
  refine Eq.trans (rr_iload rfl rfl) ?_
  refine ck_it (fun h => rr_invV0i (S' := []) (L' := [some (.inr (.inr l0)), some (.inl z2)]) (m' := (55, 0)) rfl rfl rfl rfl rfl rfl h) (fun h => rr_invV0_no (S' := []) (L' := [some (.inr (.inr l0)), some (.inl z2)]) (m' := (55, 0)) rfl rfl rfl rfl rfl rfl h) (fun h2 => ?_)
  refine bi_cg (fun z3 ω3 => ?_)
  refine Eq.trans (rr_if_ne rfl rfl) (it_cg (fun _ => ?_) (fun _ => ?_))
  · refine Eq.trans (rr_aload_n rfl rfl) ?_
    refine Eq.trans (rr_iconst rfl rfl) ?_
    refine ck_it (fun h => rr_invV0i (S' := []) (L' := [some (.inr (.inr l1)), some (.inl 1)]) (m' := (49, 0)) rfl rfl rfl rfl rfl rfl h) (fun h => rr_invV0_no (S' := []) (L' := [some (.inr (.inr l1)), some (.inl 1)]) (m' := (49, 0)) rfl rfl rfl rfl rfl rfl h) (fun h3 => ?_)
    refine bi_cg (fun z4 ω4 => ?_)
    refine Eq.trans (rr_if_eq rfl rfl) (it_cg (fun _ => ?_) (fun _ => ?_))
    · refine Eq.trans (rr_aload_n rfl rfl) ?_
      refine ck_it (fun h => rr_getfr rfl rfl rfl h) (fun h => rr_getfield_no rfl rfl h) (fun h4 => ?_)
      refine Eq.trans (rr_iload rfl rfl) ?_
      refine ck_it (fun h => rr_iaload rfl rfl h) (fun h => rr_iaload_no rfl rfl h) (fun h5 => ?_)
      exact rr_ireturn rfl rfl
    · refine Eq.trans (rr_aload_n rfl rfl) ?_
      refine ck_it (fun h => rr_getfr rfl rfl rfl h) (fun h => rr_getfield_no rfl rfl h) (fun h6 => ?_)
      refine Eq.trans (rr_iload rfl rfl) ?_
      refine ck_it (fun h => rr_iaload rfl rfl h) (fun h => rr_iaload_no rfl rfl h) (fun h7 => ?_)
      refine Eq.trans (rr_iconst rfl rfl) ?_
      refine Eq.trans (rr_iadd rfl) ?_
      refine Eq.trans (rr_iconst rfl rfl) ?_
      refine Eq.trans (rr_idiv rfl) (it_cg (fun _ => rfl) (fun _ => ?_))
      refine Eq.trans (rr_goto rfl rfl) ?_
      exact rr_ireturn rfl rfl
  · refine Eq.trans (rr_iconst rfl rfl) ?_
    exact rr_ireturn rfl rfl
theorem pX5_crossing_0 (l0 l1 : Int) (ω : am_W) (h1 : am_is ω l0 (5, 8) = true) : am_run (70, 0) 0 ([some (.inr (.inr l0)), some (.inl l1)], [], ω) = am_bi (am_run (61, 0) 0 ([some (.inr (.inr l0)), some (.inl l1)], [], ω)) (fun z1 ω1 => if 2 = 0 then none else (am_bi (am_run (236, 0) 0 ([some (.inl 1), some (.inl (am_w (z1.tdiv 2)))], [], ω1)) (fun z2 ω2 => some (some (.inl z2), ω2)))) := by
  refine Eq.trans (rr_iconst rfl rfl) ?_
  refine Eq.trans (rr_aload_n rfl rfl) ?_
  refine Eq.trans (rr_iload_n rfl rfl) ?_
  refine Eq.trans (rr_invV0i (S' := [.inl 1]) (L' := [some (.inr (.inr l0)), some (.inl l1)]) (m' := (61, 0)) rfl rfl rfl rfl rfl rfl h1) ?_
  refine bi_cg (fun z1 ω1 => ?_)
  refine Eq.trans (rr_iconst rfl rfl) ?_
  refine Eq.trans (rr_idiv rfl) (it_cg (fun _ => rfl) (fun _ => ?_))
  refine Eq.trans (rr_invS2i (S' := []) (L' := [some (.inl 1), some (.inl (am_w (z1.tdiv 2)))]) (m' := (236, 0)) rfl rfl rfl rfl rfl rfl) ?_
  refine bi_cg (fun z2 ω2 => ?_)
  exact rr_ireturn rfl rfl
theorem pX5_landing_0 (l0 l1 l2 l3 : Int) (ω : am_W) (h1 : am_is ω l0 (5, 8) = true) : am_run (71, 0) 0 ([some (.inr (.inr l0)), some (.inl l1), some (.inl l2), some (.inl l3), none, none, none], [], ω) = am_bi (am_run (61, 0) 0 ([some (.inr (.inr l0)), some (.inl l1)], [], ω)) (fun z1 ω1 => if am_is ω1 l0 (5, 8) = true then (am_bi (am_run (61, 0) 0 ([some (.inr (.inr l0)), some (.inl l3)], [], ω1)) (fun z2 ω2 => if z1 ≤ 0 then (if 2 = 0 then none else (am_bi (am_run (145, 0) 0 ([some (.inl (am_w (0 + (am_w (z2.tdiv 2))))), some (.inl z2)], [], ω2)) (fun z3 ω3 => some (some (.inl z3), ω3)))) else (if z1 = 0 then none else (if 2 = 0 then none else (am_bi (am_run (145, 0) 0 ([some (.inl (am_w ((am_w ((am_w (l2 * z2)).tdiv z1)) + (am_w (z2.tdiv 2))))), some (.inl z2)], [], ω2)) (fun z4 ω4 => some (some (.inl z4), ω4))))))) else none) := by
  refine Eq.trans (rr_aload_n rfl rfl) ?_
  refine Eq.trans (rr_iload_n rfl rfl) ?_
  refine Eq.trans (rr_invV0i (S' := []) (L' := [some (.inr (.inr l0)), some (.inl l1)]) (m' := (61, 0)) rfl rfl rfl rfl rfl rfl h1) ?_
  refine bi_cg (fun z1 ω1 => ?_)
  refine Eq.trans (rr_istore (L' := [some (.inr (.inr l0)), some (.inl l1), some (.inl l2), some (.inl l3), some (.inl z1), none, none]) rfl rfl) ?_
  refine Eq.trans (rr_aload_n rfl rfl) ?_
  refine Eq.trans (rr_iload_n rfl rfl) ?_
  refine ck_it (fun h => rr_invV0i (S' := []) (L' := [some (.inr (.inr l0)), some (.inl l3)]) (m' := (61, 0)) rfl rfl rfl rfl rfl rfl h) (fun h => rr_invV0_no (S' := []) (L' := [some (.inr (.inr l0)), some (.inl l3)]) (m' := (61, 0)) rfl rfl rfl rfl rfl rfl h) (fun h2 => ?_)
  refine bi_cg (fun z2 ω2 => ?_)
  refine Eq.trans (rr_istore (L' := [some (.inr (.inr l0)), some (.inl l1), some (.inl l2), some (.inl l3), some (.inl z1), some (.inl z2), none]) rfl rfl) ?_
  refine Eq.trans (rr_iload rfl rfl) ?_
  refine Eq.trans (rr_if_le rfl rfl) (it_cg (fun _ => ?_) (fun _ => ?_))
  · refine Eq.trans (rr_iconst rfl rfl) ?_
    refine Eq.trans (rr_istore (L' := [some (.inr (.inr l0)), some (.inl l1), some (.inl l2), some (.inl l3), some (.inl z1), some (.inl z2), some (.inl 0)]) rfl rfl) ?_
    refine Eq.trans (rr_iload rfl rfl) ?_
    refine Eq.trans (rr_iload rfl rfl) ?_
    refine Eq.trans (rr_iconst rfl rfl) ?_
    refine Eq.trans (rr_idiv rfl) (it_cg (fun _ => rfl) (fun _ => ?_))
    refine Eq.trans (rr_iadd rfl) ?_
    refine Eq.trans (rr_iload rfl rfl) ?_
    refine Eq.trans (rr_invS3i (S' := []) (L' := [some (.inl (am_w (0 + (am_w (z2.tdiv 2))))), some (.inl z2)]) (m' := (145, 0)) rfl rfl rfl rfl rfl rfl) ?_
    refine bi_cg (fun z3 ω3 => ?_)
    exact rr_ireturn rfl rfl
  · refine Eq.trans (rr_iload_n rfl rfl) ?_
    refine Eq.trans (rr_iload rfl rfl) ?_
    refine Eq.trans (rr_imul rfl) ?_
    refine Eq.trans (rr_iload rfl rfl) ?_
    refine Eq.trans (rr_idiv rfl) (it_cg (fun _ => rfl) (fun _ => ?_))
    refine Eq.trans (rr_goto rfl rfl) ?_
    refine Eq.trans (rr_istore (L' := [some (.inr (.inr l0)), some (.inl l1), some (.inl l2), some (.inl l3), some (.inl z1), some (.inl z2), some (.inl (am_w ((am_w (l2 * z2)).tdiv z1)))]) rfl rfl) ?_
    refine Eq.trans (rr_iload rfl rfl) ?_
    refine Eq.trans (rr_iload rfl rfl) ?_
    refine Eq.trans (rr_iconst rfl rfl) ?_
    refine Eq.trans (rr_idiv rfl) (it_cg (fun _ => rfl) (fun _ => ?_))
    refine Eq.trans (rr_iadd rfl) ?_
    refine Eq.trans (rr_iload rfl rfl) ?_
    refine Eq.trans (rr_invS3i (S' := []) (L' := [some (.inl (am_w ((am_w ((am_w (l2 * z2)).tdiv z1)) + (am_w (z2.tdiv 2))))), some (.inl z2)]) (m' := (145, 0)) rfl rfl rfl rfl rfl rfl) ?_
    refine bi_cg (fun z4 ω4 => ?_)
    exact rr_ireturn rfl rfl
theorem pX5_isAble_0 (l0 l1 l2 : Int) (ω : am_W) (h1 : am_is ω l1 (4, 5) = true) : am_run (72, 0) 0 ([some (.inr (.inr l0)), some (.inr (.inr l1)), some (.inl l2), none], [], ω) = if 0 < (am_get ω l1.toNat 4) then (some (some (.inl 0), ω)) else (am_bi (am_run (50, 0) 0 ([some (.inr (.inr l1))], [], ω)) (fun z1 ω1 => if ¬ z1 = 0 then (if am_is ω1 l1 (4, 5) = true then (if am_is ω1 l0 (5, 8) = true then (am_bi (am_run (69, 0) 0 ([some (.inr (.inr l0)), some (.inr (.inr l1)), some (.inl (am_get ω1 l1.toNat 1)), some (.inl l2), none], [], ω1)) (fun z2 ω2 => if z2 = ((-1)) then (some (some (.inl 0), ω2)) else (if am_is ω2 l1 (4, 5) = true then (if (am_get ω2 l1.toNat 3) < z2 then (some (some (.inl 0), ω2)) else (some (some (.inl 1), ω2))) else none))) else none) else none) else (some (some (.inl 0), ω1)))) := by
  refine Eq.trans (rr_aload_n rfl rfl) ?_
  refine Eq.trans (rr_getfi rfl rfl rfl h1) ?_
  refine Eq.trans (rr_if_gt rfl rfl) (it_cg (fun _ => ?_) (fun _ => ?_))
  · refine Eq.trans (rr_iconst rfl rfl) ?_
    exact rr_ireturn rfl rfl
  · refine Eq.trans (rr_aload_n rfl rfl) ?_
    refine Eq.trans (rr_invV0i (S' := []) (L' := [some (.inr (.inr l1))]) (m' := (50, 0)) rfl rfl rfl rfl rfl rfl h1) ?_
    refine bi_cg (fun z1 ω1 => ?_)
    refine Eq.trans (rr_if_ne rfl rfl) (it_cg (fun _ => ?_) (fun _ => ?_))
    · refine Eq.trans (rr_aload_n rfl rfl) ?_
      refine Eq.trans (rr_aload_n rfl rfl) ?_
      refine Eq.trans (rr_aload_n rfl rfl) ?_
      refine ck_it (fun h => rr_getfi rfl rfl rfl h) (fun h => rr_getfield_no rfl rfl h) (fun h2 => ?_)
      refine Eq.trans (rr_iload_n rfl rfl) ?_
      refine ck_it (fun h => rr_invV0i (S' := []) (L' := [some (.inr (.inr l0)), some (.inr (.inr l1)), some (.inl (am_get ω1 l1.toNat 1)), some (.inl l2), none]) (m' := (69, 0)) rfl rfl rfl rfl rfl rfl h) (fun h => rr_invV0_no (S' := []) (L' := [some (.inr (.inr l0)), some (.inr (.inr l1)), some (.inl (am_get ω1 l1.toNat 1)), some (.inl l2), none]) (m' := (69, 0)) rfl rfl rfl rfl rfl rfl h) (fun h3 => ?_)
      refine bi_cg (fun z2 ω2 => ?_)
      refine Eq.trans (rr_istore_n (L' := [some (.inr (.inr l0)), some (.inr (.inr l1)), some (.inl l2), some (.inl z2)]) rfl rfl) ?_
      refine Eq.trans (rr_iload_n rfl rfl) ?_
      refine Eq.trans (rr_iconst rfl rfl) ?_
      refine Eq.trans (rr_icmp_eq rfl rfl) (it_cg (fun _ => ?_) (fun _ => ?_))
      · refine Eq.trans (rr_iconst rfl rfl) ?_
        exact rr_ireturn rfl rfl
      · refine Eq.trans (rr_aload_n rfl rfl) ?_
        refine ck_it (fun h => rr_getfi rfl rfl rfl h) (fun h => rr_getfield_no rfl rfl h) (fun h4 => ?_)
        refine Eq.trans (rr_iload_n rfl rfl) ?_
        refine Eq.trans (rr_icmp_lt rfl rfl) (it_cg (fun _ => ?_) (fun _ => ?_))
        · refine Eq.trans (rr_iconst rfl rfl) ?_
          exact rr_ireturn rfl rfl
        · refine Eq.trans (rr_iconst rfl rfl) ?_
          refine Eq.trans (rr_goto rfl rfl) ?_
          exact rr_ireturn rfl rfl
    · refine Eq.trans (rr_iconst rfl rfl) ?_
      exact rr_ireturn rfl rfl
theorem pX5_send_0 (l0 l1 l2 : Int) (ω : am_W) (h1 : am_is ω l1 (4, 5) = true) (h2 : am_is ω l0 (5, 8) = true) : am_run (73, 0) 0 ([some (.inr (.inr l0)), some (.inr (.inr l1)), some (.inl l2), none], [], ω) = am_bi (am_run (62, 0) 0 ([some (.inr (.inr l0)), some (.inl (am_get ω l1.toNat 1)), some (.inl l2)], [], ω)) (fun z1 ω1 => if am_is ω1 l1 (4, 5) = true then (if am_is ω1 l0 (5, 8) = true then (am_bi (am_run (70, 0) 0 ([some (.inr (.inr l0)), some (.inl (am_get ω1 l1.toNat 1))], [], ω1)) (fun z2 ω2 => if am_is ω2 l1 (4, 5) = true then (if am_is (am_put ω2 l1.toNat 4 z2) l0 (5, 8) = true then (am_bi (am_run (71, 0) 0 ([some (.inr (.inr l0)), some (.inl (am_get (am_put ω2 l1.toNat 4 z2) l1.toNat 1)), some (.inl (am_get (am_put ω2 l1.toNat 4 z2) l1.toNat 2)), some (.inl z1), none, none, none], [], am_put ω2 l1.toNat 4 z2)) (fun z3 ω3 => if am_is ω3 l1 (4, 5) = true then (some (none, am_put (am_put ω3 l1.toNat 2 z3) l1.toNat 1 z1)) else none)) else none) else none)) else none) else none) := by
  refine Eq.trans (rr_aload_n rfl rfl) ?_
  refine Eq.trans (rr_aload_n rfl rfl) ?_
  refine Eq.trans (rr_getfi rfl rfl rfl h1) ?_
  refine Eq.trans (rr_iload_n rfl rfl) ?_
  refine Eq.trans (rr_invV0i (S' := []) (L' := [some (.inr (.inr l0)), some (.inl (am_get ω l1.toNat 1)), some (.inl l2)]) (m' := (62, 0)) rfl rfl rfl rfl rfl rfl h2) ?_
  refine bi_cg (fun z1 ω1 => ?_)
  refine Eq.trans (rr_istore_n (L' := [some (.inr (.inr l0)), some (.inr (.inr l1)), some (.inl l2), some (.inl z1)]) rfl rfl) ?_
  refine Eq.trans (rr_aload_n rfl rfl) ?_
  refine Eq.trans (rr_aload_n rfl rfl) ?_
  refine Eq.trans (rr_aload_n rfl rfl) ?_
  refine ck_it (fun h => rr_getfi rfl rfl rfl h) (fun h => rr_getfield_no rfl rfl h) (fun h3 => ?_)
  refine ck_it (fun h => rr_invV0i (S' := [.inr (.inr l1)]) (L' := [some (.inr (.inr l0)), some (.inl (am_get ω1 l1.toNat 1))]) (m' := (70, 0)) rfl rfl rfl rfl rfl rfl h) (fun h => rr_invV0_no (S' := [.inr (.inr l1)]) (L' := [some (.inr (.inr l0)), some (.inl (am_get ω1 l1.toNat 1))]) (m' := (70, 0)) rfl rfl rfl rfl rfl rfl h) (fun h4 => ?_)
  refine bi_cg (fun z2 ω2 => ?_)
  refine ck_it (fun h => rr_putfieldi rfl rfl rfl h) (fun h => rr_putfieldi_no rfl rfl h) (fun h5 => ?_)
  refine Eq.trans (rr_aload_n rfl rfl) ?_
  refine Eq.trans (rr_aload_n rfl rfl) ?_
  refine Eq.trans (rr_aload_n rfl rfl) ?_
  refine Eq.trans (rr_getfi rfl rfl rfl h5) ?_
  refine Eq.trans (rr_aload_n rfl rfl) ?_
  refine Eq.trans (rr_getfi rfl rfl rfl h5) ?_
  refine Eq.trans (rr_iload_n rfl rfl) ?_
  refine ck_it (fun h => rr_invV0i (S' := [.inr (.inr l1)]) (L' := [some (.inr (.inr l0)), some (.inl (am_get (am_put ω2 l1.toNat 4 z2) l1.toNat 1)), some (.inl (am_get (am_put ω2 l1.toNat 4 z2) l1.toNat 2)), some (.inl z1), none, none, none]) (m' := (71, 0)) rfl rfl rfl rfl rfl rfl h) (fun h => rr_invV0_no (S' := [.inr (.inr l1)]) (L' := [some (.inr (.inr l0)), some (.inl (am_get (am_put ω2 l1.toNat 4 z2) l1.toNat 1)), some (.inl (am_get (am_put ω2 l1.toNat 4 z2) l1.toNat 2)), some (.inl z1), none, none, none]) (m' := (71, 0)) rfl rfl rfl rfl rfl rfl h) (fun h6 => ?_)
  refine bi_cg (fun z3 ω3 => ?_)
  refine ck_it (fun h => rr_putfieldi rfl rfl rfl h) (fun h => rr_putfieldi_no rfl rfl h) (fun h7 => ?_)
  refine Eq.trans (rr_aload_n rfl rfl) ?_
  refine Eq.trans (rr_iload_n rfl rfl) ?_
  refine Eq.trans (rr_putfieldi rfl rfl rfl h7) ?_
  exact rr_return rfl rfl
theorem pX5_drift_0 (l0 l1 : Int) (ω : am_W) (h1 : am_is ω l1 (4, 5) = true) (h2 : am_is ω l0 (5, 8) = true) : am_run (74, 0) 0 ([some (.inr (.inr l0)), some (.inr (.inr l1))], [], ω) = if (am_get ω l1.toNat 4) ≤ 0 then (am_bi (am_run (61, 0) 0 ([some (.inr (.inr l0)), some (.inl (am_get ω l1.toNat 1))], [], ω)) (fun z1 ω1 => am_bi (am_run (145, 0) 0 ([some (.inl (am_w ((am_get ω l1.toNat 2) + 1))), some (.inl z1)], [], ω1)) (fun z2 ω2 => if am_is ω2 l1 (4, 5) = true then (some (none, am_put ω2 l1.toNat 2 z2)) else none))) else (some (none, am_put ω l1.toNat 4 (am_w ((am_get ω l1.toNat 4) - 1)))) := by
  refine Eq.trans (rr_aload_n rfl rfl) ?_
  refine Eq.trans (rr_getfi rfl rfl rfl h1) ?_
  refine Eq.trans (rr_if_le rfl rfl) (it_cg (fun _ => ?_) (fun _ => ?_))
  · refine Eq.trans (rr_aload_n rfl rfl) ?_
    refine Eq.trans (rr_aload_n rfl rfl) ?_
    refine Eq.trans (rr_getfi rfl rfl rfl h1) ?_
    refine Eq.trans (rr_iconst rfl rfl) ?_
    refine Eq.trans (rr_iadd rfl) ?_
    refine Eq.trans (rr_aload_n rfl rfl) ?_
    refine Eq.trans (rr_aload_n rfl rfl) ?_
    refine Eq.trans (rr_getfi rfl rfl rfl h1) ?_
    refine Eq.trans (rr_invV0i (S' := [.inl (am_w ((am_get ω l1.toNat 2) + 1)), .inr (.inr l1)]) (L' := [some (.inr (.inr l0)), some (.inl (am_get ω l1.toNat 1))]) (m' := (61, 0)) rfl rfl rfl rfl rfl rfl h2) ?_
    refine bi_cg (fun z1 ω1 => ?_)
    refine Eq.trans (rr_invS3i (S' := [.inr (.inr l1)]) (L' := [some (.inl (am_w ((am_get ω l1.toNat 2) + 1))), some (.inl z1)]) (m' := (145, 0)) rfl rfl rfl rfl rfl rfl) ?_
    refine bi_cg (fun z2 ω2 => ?_)
    refine ck_it (fun h => rr_putfieldi rfl rfl rfl h) (fun h => rr_putfieldi_no rfl rfl h) (fun h3 => ?_)
    exact rr_return rfl rfl
  · refine Eq.trans (rr_aload_n rfl rfl) ?_
    refine Eq.trans (rr_dupr rfl) ?_
    refine Eq.trans (rr_getfi rfl rfl rfl h1) ?_
    refine Eq.trans (rr_iconst rfl rfl) ?_
    refine Eq.trans (rr_isub rfl) ?_
    refine Eq.trans (rr_putfieldi rfl rfl rfl h1) ?_
    refine Eq.trans (rr_goto rfl rfl) ?_
    exact rr_return rfl rfl
theorem pX5_placeBehind_0 (l0 l1 l2 : Int) (ω : am_W) (h1 : am_is ω l1 (4, 5) = true) : am_run (75, 0) 0 ([some (.inr (.inr l0)), some (.inr (.inr l1)), some (.inl l2)], [], ω) = am_bi (am_run (236, 0) 0 ([some (.inl 0), some (.inl (am_w (l2 - (am_get ω l1.toNat 4))))], [], ω)) (fun z1 ω1 => if am_is ω1 l1 (4, 5) = true then (if am_is ω1 l0 (5, 8) = true then (am_bi (am_run (61, 0) 0 ([some (.inr (.inr l0)), some (.inl (am_get ω1 l1.toNat 1))], [], ω1)) (fun z2 ω2 => am_bi (am_run (145, 0) 0 ([some (.inl (am_w ((am_get ω l1.toNat 2) + z1))), some (.inl z2)], [], ω2)) (fun z3 ω3 => some (some (.inl z3), ω3)))) else none) else none) := by
  refine Eq.trans (rr_aload_n rfl rfl) ?_
  refine Eq.trans (rr_getfi rfl rfl rfl h1) ?_
  refine Eq.trans (rr_iconst rfl rfl) ?_
  refine Eq.trans (rr_iload_n rfl rfl) ?_
  refine Eq.trans (rr_aload_n rfl rfl) ?_
  refine Eq.trans (rr_getfi rfl rfl rfl h1) ?_
  refine Eq.trans (rr_isub rfl) ?_
  refine Eq.trans (rr_invS2i (S' := [.inl (am_get ω l1.toNat 2)]) (L' := [some (.inl 0), some (.inl (am_w (l2 - (am_get ω l1.toNat 4))))]) (m' := (236, 0)) rfl rfl rfl rfl rfl rfl) ?_
  refine bi_cg (fun z1 ω1 => ?_)
  refine Eq.trans (rr_iadd rfl) ?_
  refine Eq.trans (rr_aload_n rfl rfl) ?_
  refine Eq.trans (rr_aload_n rfl rfl) ?_
  refine ck_it (fun h => rr_getfi rfl rfl rfl h) (fun h => rr_getfield_no rfl rfl h) (fun h2 => ?_)
  refine ck_it (fun h => rr_invV0i (S' := [.inl (am_w ((am_get ω l1.toNat 2) + z1))]) (L' := [some (.inr (.inr l0)), some (.inl (am_get ω1 l1.toNat 1))]) (m' := (61, 0)) rfl rfl rfl rfl rfl rfl h) (fun h => rr_invV0_no (S' := [.inl (am_w ((am_get ω l1.toNat 2) + z1))]) (L' := [some (.inr (.inr l0)), some (.inl (am_get ω1 l1.toNat 1))]) (m' := (61, 0)) rfl rfl rfl rfl rfl rfl h) (fun h3 => ?_)
  refine bi_cg (fun z2 ω2 => ?_)
  refine Eq.trans (rr_invS3i (S' := []) (L' := [some (.inl (am_w ((am_get ω l1.toNat 2) + z1))), some (.inl z2)]) (m' := (145, 0)) rfl rfl rfl rfl rfl rfl) ?_
  refine bi_cg (fun z3 ω3 => ?_)
  exact rr_ireturn rfl rfl
theorem pX5_fly_0 (l0 l1 l2 : Int) (ω : am_W) (h1 : am_is ω l0 (5, 8) = true) : am_run (76, 0) 0 ([some (.inr (.inr l0)), some (.inr (.inr l1)), some (.inr (.inl l2)), none, none], [], ω) = if (am_cmp l2 1) = 0 then (am_run (76, 0) 14 ([some (.inr (.inr l0)), some (.inr (.inr l1)), some (.inr (.inl l2)), none, none], [], ω)) else (if ¬ (am_cmp l2 2) = 0 then (if (am_cmp l2 0) = 0 then (am_bv (am_run (74, 0) 0 ([some (.inr (.inr l0)), some (.inr (.inr l1))], [], ω)) (fun ω1 => some (some (.inl 1), ω1))) else (some (some (.inl 0), ω))) else (am_run (76, 0) 14 ([some (.inr (.inr l0)), some (.inr (.inr l1)), some (.inr (.inl l2)), none, none], [], ω))) := by
  refine Eq.trans (rr_lload_n rfl rfl) ?_
  refine Eq.trans (rr_lconst rfl) ?_
  refine Eq.trans (rr_lcmp rfl) ?_
  refine Eq.trans (rr_if_eq rfl rfl) (it_cg (fun _ => ?_) (fun _ => ?_))
  · rfl
  · refine Eq.trans (rr_lload_n rfl rfl) ?_
    refine Eq.trans (rr_ldc2 rfl rfl) ?_
    refine Eq.trans (rr_lcmp rfl) ?_
    refine Eq.trans (rr_if_ne rfl rfl) (it_cg (fun _ => ?_) (fun _ => ?_))
    · refine Eq.trans (rr_lload_n rfl rfl) ?_
      refine Eq.trans (rr_lconst rfl) ?_
      refine Eq.trans (rr_lcmp rfl) ?_
      refine Eq.trans (rr_if_eq rfl rfl) (it_cg (fun _ => ?_) (fun _ => ?_))
      · refine Eq.trans (rr_aload_n rfl rfl) ?_
        refine Eq.trans (rr_aload_n rfl rfl) ?_
        refine Eq.trans (rr_invV0v (S' := []) (L' := [some (.inr (.inr l0)), some (.inr (.inr l1))]) (m' := (74, 0)) rfl rfl rfl rfl rfl rfl h1) ?_
        refine bv_cg (fun ω1 => ?_)
        refine Eq.trans (rr_iconst rfl rfl) ?_
        exact rr_ireturn rfl rfl
      · refine Eq.trans (rr_iconst rfl rfl) ?_
        exact rr_ireturn rfl rfl
    · rfl
theorem pX5_fly_14 (l0 l1 l2 : Int) (o4 : Option am_V) (ω : am_W) (h1 : am_is ω l0 (5, 8) = true) : am_run (76, 0) 14 ([some (.inr (.inr l0)), some (.inr (.inr l1)), some (.inr (.inl l2)), none, o4], [], ω) = am_bi (am_run (72, 0) 0 ([some (.inr (.inr l0)), some (.inr (.inr l1)), some (.inl (am_w l2)), none], [], ω)) (fun z1 ω1 => if ¬ z1 = 0 then (if am_is ω1 l1 (4, 5) = true then (if am_is ω1 l0 (5, 8) = true then (am_bi (am_run (69, 0) 0 ([some (.inr (.inr l0)), some (.inr (.inr l1)), some (.inl (am_get ω1 l1.toNat 1)), some (.inl (am_w l2)), none], [], ω1)) (fun z2 ω2 => if am_is ω2 l1 (4, 5) = true then (if am_is (am_put ω2 l1.toNat 3 (am_w ((am_get ω1 l1.toNat 3) - z2))) l0 (5, 8) = true then (am_bv (am_run (73, 0) 0 ([some (.inr (.inr l0)), some (.inr (.inr l1)), some (.inl (am_w l2)), none], [], am_put ω2 l1.toNat 3 (am_w ((am_get ω1 l1.toNat 3) - z2)))) (fun ω3 => if am_is ω3 l0 (5, 8) = true then (am_bv (am_run (74, 0) 0 ([some (.inr (.inr l0)), some (.inr (.inr l1))], [], ω3)) (fun ω4 => some (some (.inl 1), ω4))) else none)) else none) else none)) else none) else none) else (some (some (.inl 0), ω1))) := by
  refine Eq.trans (rr_lload_n rfl rfl) ?_
  refine Eq.trans (rr_l2i rfl) ?_
  refine Eq.trans (rr_istore (L' := [some (.inr (.inr l0)), some (.inr (.inr l1)), some (.inr (.inl l2)), none, some (.inl (am_w l2))]) rfl rfl) ?_
  refine Eq.trans (rr_aload_n rfl rfl) ?_
  refine Eq.trans (rr_aload_n rfl rfl) ?_
  refine Eq.trans (rr_iload rfl rfl) ?_
  refine Eq.trans (rr_invV0i (S' := []) (L' := [some (.inr (.inr l0)), some (.inr (.inr l1)), some (.inl (am_w l2)), none]) (m' := (72, 0)) rfl rfl rfl rfl rfl rfl h1) ?_
  refine bi_cg (fun z1 ω1 => ?_)
  refine Eq.trans (rr_if_ne rfl rfl) (it_cg (fun _ => ?_) (fun _ => ?_))
  · refine Eq.trans (rr_aload_n rfl rfl) ?_
    refine Eq.trans (rr_dupr rfl) ?_
    refine ck_it (fun h => rr_getfi rfl rfl rfl h) (fun h => rr_getfield_no rfl rfl h) (fun h2 => ?_)
    refine Eq.trans (rr_aload_n rfl rfl) ?_
    refine Eq.trans (rr_aload_n rfl rfl) ?_
    refine Eq.trans (rr_aload_n rfl rfl) ?_
    refine Eq.trans (rr_getfi rfl rfl rfl h2) ?_
    refine Eq.trans (rr_iload rfl rfl) ?_
    refine ck_it (fun h => rr_invV0i (S' := [.inl (am_get ω1 l1.toNat 3), .inr (.inr l1)]) (L' := [some (.inr (.inr l0)), some (.inr (.inr l1)), some (.inl (am_get ω1 l1.toNat 1)), some (.inl (am_w l2)), none]) (m' := (69, 0)) rfl rfl rfl rfl rfl rfl h) (fun h => rr_invV0_no (S' := [.inl (am_get ω1 l1.toNat 3), .inr (.inr l1)]) (L' := [some (.inr (.inr l0)), some (.inr (.inr l1)), some (.inl (am_get ω1 l1.toNat 1)), some (.inl (am_w l2)), none]) (m' := (69, 0)) rfl rfl rfl rfl rfl rfl h) (fun h3 => ?_)
    refine bi_cg (fun z2 ω2 => ?_)
    refine Eq.trans (rr_isub rfl) ?_
    refine ck_it (fun h => rr_putfieldi rfl rfl rfl h) (fun h => rr_putfieldi_no rfl rfl h) (fun h4 => ?_)
    refine Eq.trans (rr_aload_n rfl rfl) ?_
    refine Eq.trans (rr_aload_n rfl rfl) ?_
    refine Eq.trans (rr_iload rfl rfl) ?_
    refine ck_it (fun h => rr_invV0v (S' := []) (L' := [some (.inr (.inr l0)), some (.inr (.inr l1)), some (.inl (am_w l2)), none]) (m' := (73, 0)) rfl rfl rfl rfl rfl rfl h) (fun h => rr_invV0_no (S' := []) (L' := [some (.inr (.inr l0)), some (.inr (.inr l1)), some (.inl (am_w l2)), none]) (m' := (73, 0)) rfl rfl rfl rfl rfl rfl h) (fun h5 => ?_)
    refine bv_cg (fun ω3 => ?_)
    refine Eq.trans (rr_goto rfl rfl) ?_
    refine Eq.trans (rr_aload_n rfl rfl) ?_
    refine Eq.trans (rr_aload_n rfl rfl) ?_
    refine ck_it (fun h => rr_invV0v (S' := []) (L' := [some (.inr (.inr l0)), some (.inr (.inr l1))]) (m' := (74, 0)) rfl rfl rfl rfl rfl rfl h) (fun h => rr_invV0_no (S' := []) (L' := [some (.inr (.inr l0)), some (.inr (.inr l1))]) (m' := (74, 0)) rfl rfl rfl rfl rfl rfl h) (fun h6 => ?_)
    refine bv_cg (fun ω4 => ?_)
    refine Eq.trans (rr_iconst rfl rfl) ?_
    exact rr_ireturn rfl rfl
  · refine Eq.trans (rr_iconst rfl rfl) ?_
    exact rr_ireturn rfl rfl
theorem pX5_advance_0 (l0 l1 : Int) (ω : am_W) (h1 : am_is ω l0 (5, 8) = true) : am_run (77, 0) 0 ([some (.inr (.inr l0)), some (.inl l1), none, none, none], [], ω) = am_run (77, 0) 7 ([some (.inr (.inr l0)), some (.inl l1), some (.inl (am_get ω l0.toNat 6)), some (.inl 0), none], [], ω) := by
  refine Eq.trans (rr_aload_n rfl rfl) ?_
  refine Eq.trans (rr_getfi rfl rfl rfl h1) ?_
  refine Eq.trans (rr_istore_n (L' := [some (.inr (.inr l0)), some (.inl l1), some (.inl (am_get ω l0.toNat 6)), none, none]) rfl rfl) ?_
  refine Eq.trans (rr_iconst rfl rfl) ?_
  refine Eq.trans (rr_istore_n (L' := [some (.inr (.inr l0)), some (.inl l1), some (.inl (am_get ω l0.toNat 6)), some (.inl 0), none]) rfl rfl) ?_
  rfl
theorem pX5_advance_7 (l0 l1 l2 l3 : Int) (o4 : Option am_V) (ω : am_W) (h1 : am_is ω l0 (5, 8) = true) : am_run (77, 0) 7 ([some (.inr (.inr l0)), some (.inl l1), some (.inl l2), some (.inl l3), o4], [], ω) = if l1 ≤ l3 then (some (some (.inl (am_w ((am_get (am_put ω l0.toNat 5 (am_w ((am_get ω l0.toNat 5) + l1))) l0.toNat 6) - l2))), am_put ω l0.toNat 5 (am_w ((am_get ω l0.toNat 5) + l1)))) else (am_run (77, 0) 15 ([some (.inr (.inr l0)), some (.inl l1), some (.inl l2), some (.inl l3), some (.inl 0)], [], ω)) := by
  refine Eq.trans (rr_iload_n rfl rfl) ?_
  refine Eq.trans (rr_iload_n rfl rfl) ?_
  refine Eq.trans (rr_icmp_ge rfl rfl) (it_cg (fun _ => ?_) (fun _ => ?_))
  · refine Eq.trans (rr_aload_n rfl rfl) ?_
    refine Eq.trans (rr_dupr rfl) ?_
    refine Eq.trans (rr_getfi rfl rfl rfl h1) ?_
    refine Eq.trans (rr_iload_n rfl rfl) ?_
    refine Eq.trans (rr_iadd rfl) ?_
    refine Eq.trans (rr_putfieldi rfl rfl rfl h1) ?_
    refine Eq.trans (rr_aload_n rfl rfl) ?_
    refine Eq.trans (rr_getfi rfl rfl rfl h1) ?_
    refine Eq.trans (rr_iload_n rfl rfl) ?_
    refine Eq.trans (rr_isub rfl) ?_
    exact rr_ireturn rfl rfl
  · refine Eq.trans (rr_iconst rfl rfl) ?_
    refine Eq.trans (rr_istore (L' := [some (.inr (.inr l0)), some (.inl l1), some (.inl l2), some (.inl l3), some (.inl 0)]) rfl rfl) ?_
    rfl
theorem pX5_advance_15 (l0 l1 l2 l3 l4 : Int) (ω : am_W) (h1 : am_is ω l0 (5, 8) = true) : am_run (77, 0) 15 ([some (.inr (.inr l0)), some (.inl l1), some (.inl l2), some (.inl l3), some (.inl l4)], [], ω) = if (am_get ω l0.toNat 3) ≤ l4 then (am_bi (am_run (78, 0) 0 ([some (.inr (.inr l0)), none, none, none, none], [], ω)) (fun z1 ω1 => if am_is ω1 l0 (5, 8) = true then (am_run (77, 0) 7 ([some (.inr (.inr l0)), some (.inl l1), some (.inl l2), some (.inl (am_w (l3 + 1))), some (.inl l4)], [], am_put ω1 l0.toNat 6 (am_w ((am_get ω l0.toNat 6) + z1)))) else none)) else (if am_ina ω (am_get ω l0.toNat 4) l4 = true then (am_bv (am_run (74, 0) 0 ([some (.inr (.inr l0)), some (.inr (.inr (am_get ω (am_get ω l0.toNat 4).toNat l4.toNat)))], [], ω)) (fun ω2 => am_run (77, 0) 15 ([some (.inr (.inr l0)), some (.inl l1), some (.inl l2), some (.inl l3), some (.inl (am_w (l4 + 1)))], [], ω2))) else none) := by
  refine Eq.trans (rr_iload rfl rfl) ?_
  refine Eq.trans (rr_aload_n rfl rfl) ?_
  refine Eq.trans (rr_getfi rfl rfl rfl h1) ?_
  refine Eq.trans (rr_icmp_ge rfl rfl) (it_cg (fun _ => ?_) (fun _ => ?_))
  · refine Eq.trans (rr_aload_n rfl rfl) ?_
    refine Eq.trans (rr_dupr rfl) ?_
    refine Eq.trans (rr_getfi rfl rfl rfl h1) ?_
    refine Eq.trans (rr_aload_n rfl rfl) ?_
    refine Eq.trans (rr_invV0i (S' := [.inl (am_get ω l0.toNat 6), .inr (.inr l0)]) (L' := [some (.inr (.inr l0)), none, none, none, none]) (m' := (78, 0)) rfl rfl rfl rfl rfl rfl h1) ?_
    refine bi_cg (fun z1 ω1 => ?_)
    refine Eq.trans (rr_iadd rfl) ?_
    refine ck_it (fun h => rr_putfieldi rfl rfl rfl h) (fun h => rr_putfieldi_no rfl rfl h) (fun h2 => ?_)
    refine Eq.trans (rr_iinc (L' := [some (.inr (.inr l0)), some (.inl l1), some (.inl l2), some (.inl (am_w (l3 + 1))), some (.inl l4)]) rfl rfl rfl) ?_
    refine Eq.trans (rr_goto rfl rfl) ?_
    rfl
  · refine Eq.trans (rr_aload_n rfl rfl) ?_
    refine Eq.trans (rr_aload_n rfl rfl) ?_
    refine Eq.trans (rr_getfr rfl rfl rfl h1) ?_
    refine Eq.trans (rr_iload rfl rfl) ?_
    refine ck_it (fun h => rr_aaload rfl h) (fun h => rr_aaload_no rfl h) (fun h3 => ?_)
    refine Eq.trans (rr_invV0v (S' := []) (L' := [some (.inr (.inr l0)), some (.inr (.inr (am_get ω (am_get ω l0.toNat 4).toNat l4.toNat)))]) (m' := (74, 0)) rfl rfl rfl rfl rfl rfl h1) ?_
    refine bv_cg (fun ω2 => ?_)
    refine Eq.trans (rr_iinc (L' := [some (.inr (.inr l0)), some (.inl l1), some (.inl l2), some (.inl l3), some (.inl (am_w (l4 + 1)))]) rfl rfl rfl) ?_
    refine Eq.trans (rr_goto rfl rfl) ?_
    rfl
theorem pX5_pairsHit_0 (l0 : Int) (ω : am_W) : am_run (78, 0) 0 ([some (.inr (.inr l0)), none, none, none, none], [], ω) = am_run (78, 0) 4 ([some (.inr (.inr l0)), some (.inl 0), some (.inl 0), none, none], [], ω) := by
  refine Eq.trans (rr_iconst rfl rfl) ?_
  refine Eq.trans (rr_istore_n (L' := [some (.inr (.inr l0)), some (.inl 0), none, none, none]) rfl rfl) ?_
  refine Eq.trans (rr_iconst rfl rfl) ?_
  refine Eq.trans (rr_istore_n (L' := [some (.inr (.inr l0)), some (.inl 0), some (.inl 0), none, none]) rfl rfl) ?_
  rfl
theorem pX5_pairsHit_4 (l0 l1 l2 : Int) (o3 o4 : Option am_V) (ω : am_W) (h1 : am_is ω l0 (5, 8) = true) : am_run (78, 0) 4 ([some (.inr (.inr l0)), some (.inl l1), some (.inl l2), o3, o4], [], ω) = if (am_get ω l0.toNat 3) ≤ l2 then (some (some (.inl l1), ω)) else (am_run (78, 0) 16 ([some (.inr (.inr l0)), some (.inl l1), some (.inl l2), some (.inl (am_w (l2 + 1))), o4], [], ω)) := by
  refine Eq.trans (rr_iload_n rfl rfl) ?_
  refine Eq.trans (rr_aload_n rfl rfl) ?_
  refine Eq.trans (rr_getfi rfl rfl rfl h1) ?_
  refine Eq.trans (rr_icmp_ge rfl rfl) (it_cg (fun _ => ?_) (fun _ => ?_))
  · refine Eq.trans (rr_iload_n rfl rfl) ?_
    exact rr_ireturn rfl rfl
  · refine Eq.trans (rr_iload_n rfl rfl) ?_
    refine Eq.trans (rr_iconst rfl rfl) ?_
    refine Eq.trans (rr_iadd rfl) ?_
    refine Eq.trans (rr_istore_n (L' := [some (.inr (.inr l0)), some (.inl l1), some (.inl l2), some (.inl (am_w (l2 + 1))), o4]) rfl rfl) ?_
    rfl
theorem pX5_pairsHit_16 (l0 l1 l2 l3 : Int) (o4 : Option am_V) (ω : am_W) (h1 : am_is ω l0 (5, 8) = true) : am_run (78, 0) 16 ([some (.inr (.inr l0)), some (.inl l1), some (.inl l2), some (.inl l3), o4], [], ω) = if (am_get ω l0.toNat 3) ≤ l3 then (am_run (78, 0) 4 ([some (.inr (.inr l0)), some (.inl l1), some (.inl (am_w (l2 + 1))), some (.inl l3), o4], [], ω)) else (if am_ina ω (am_get ω l0.toNat 4) l2 = true then (if am_is ω (am_get ω (am_get ω l0.toNat 4).toNat l2.toNat) (4, 5) = true then (if (am_get ω (am_get ω (am_get ω l0.toNat 4).toNat l2.toNat).toNat 0) = 3 then (am_run (78, 0) 50 ([some (.inr (.inr l0)), some (.inl l1), some (.inl l2), some (.inl l3), o4], [], ω)) else (if am_ina ω (am_get ω l0.toNat 4) l3 = true then (if am_is ω (am_get ω (am_get ω l0.toNat 4).toNat l3.toNat) (4, 5) = true then (if ¬ (am_get ω (am_get ω (am_get ω l0.toNat 4).toNat l3.toNat).toNat 0) = 3 then (am_run (78, 0) 55 ([some (.inr (.inr l0)), some (.inl l1), some (.inl l2), some (.inl l3), o4], [.inl 0], ω)) else (am_run (78, 0) 50 ([some (.inr (.inr l0)), some (.inl l1), some (.inl l2), some (.inl l3), o4], [], ω))) else none) else none)) else none) else none) := by
  refine Eq.trans (rr_iload_n rfl rfl) ?_
  refine Eq.trans (rr_aload_n rfl rfl) ?_
  refine Eq.trans (rr_getfi rfl rfl rfl h1) ?_
  refine Eq.trans (rr_icmp_ge rfl rfl) (it_cg (fun _ => ?_) (fun _ => ?_))
  · refine Eq.trans (rr_iinc (L' := [some (.inr (.inr l0)), some (.inl l1), some (.inl (am_w (l2 + 1))), some (.inl l3), o4]) rfl rfl rfl) ?_
    refine Eq.trans (rr_goto rfl rfl) ?_
    rfl
  · refine Eq.trans (rr_aload_n rfl rfl) ?_
    refine Eq.trans (rr_getfr rfl rfl rfl h1) ?_
    refine Eq.trans (rr_iload_n rfl rfl) ?_
    refine ck_it (fun h => rr_aaload rfl h) (fun h => rr_aaload_no rfl h) (fun h2 => ?_)
    refine ck_it (fun h => rr_getfi rfl rfl rfl h) (fun h => rr_getfield_no rfl rfl h) (fun h3 => ?_)
    refine Eq.trans (rr_iconst rfl rfl) ?_
    refine Eq.trans (rr_icmp_eq rfl rfl) (it_cg (fun _ => ?_) (fun _ => ?_))
    · rfl
    · refine Eq.trans (rr_aload_n rfl rfl) ?_
      refine Eq.trans (rr_getfr rfl rfl rfl h1) ?_
      refine Eq.trans (rr_iload_n rfl rfl) ?_
      refine ck_it (fun h => rr_aaload rfl h) (fun h => rr_aaload_no rfl h) (fun h4 => ?_)
      refine ck_it (fun h => rr_getfi rfl rfl rfl h) (fun h => rr_getfield_no rfl rfl h) (fun h5 => ?_)
      refine Eq.trans (rr_iconst rfl rfl) ?_
      refine Eq.trans (rr_icmp_ne rfl rfl) (it_cg (fun _ => ?_) (fun _ => ?_))
      · refine Eq.trans (rr_iconst rfl rfl) ?_
        rfl
      · rfl
theorem pX5_pairsHit_50 (l0 l1 l2 l3 : Int) (o4 : Option am_V) (ω : am_W) : am_run (78, 0) 50 ([some (.inr (.inr l0)), some (.inl l1), some (.inl l2), some (.inl l3), o4], [], ω) = am_run (78, 0) 55 ([some (.inr (.inr l0)), some (.inl l1), some (.inl l2), some (.inl l3), o4], [.inl 1], ω) := by
  refine Eq.trans (rr_iconst rfl rfl) ?_
  refine Eq.trans (rr_goto rfl rfl) ?_
  rfl
theorem pX5_pairsHit_55 (l0 l1 l2 l3 s0 : Int) (o4 : Option am_V) (ω : am_W) (h1 : am_is ω l0 (5, 8) = true) : am_run (78, 0) 55 ([some (.inr (.inr l0)), some (.inl l1), some (.inl l2), some (.inl l3), o4], [.inl s0], ω) = if s0 = 0 then (am_run (78, 0) 16 ([some (.inr (.inr l0)), some (.inl l1), some (.inl l2), some (.inl (am_w (l3 + 1))), some (.inl s0)], [], ω)) else (if am_ina ω (am_get ω l0.toNat 4) l2 = true then (if am_ina ω (am_get ω l0.toNat 4) l3 = true then (if am_is ω (am_get ω (am_get ω l0.toNat 4).toNat l2.toNat) (4, 5) = true then (am_bi (am_run (48, 0) 0 ([some (.inr (.inr (am_get ω (am_get ω l0.toNat 4).toNat l2.toNat))), some (.inr (.inr (am_get ω (am_get ω l0.toNat 4).toNat l3.toNat)))], [], ω)) (fun z1 ω1 => if z1 = 0 then (am_run (78, 0) 16 ([some (.inr (.inr l0)), some (.inl l1), some (.inl l2), some (.inl (am_w (l3 + 1))), some (.inl s0)], [], ω1)) else (am_run (78, 0) 16 ([some (.inr (.inr l0)), some (.inl (am_w (l1 + 1))), some (.inl l2), some (.inl (am_w (l3 + 1))), some (.inl s0)], [], ω1)))) else none) else none) else none) := by
  refine Eq.trans (rr_istore (L' := [some (.inr (.inr l0)), some (.inl l1), some (.inl l2), some (.inl l3), some (.inl s0)]) rfl rfl) ?_
  refine Eq.trans (rr_iload rfl rfl) ?_
  refine Eq.trans (rr_if_eq rfl rfl) (it_cg (fun _ => ?_) (fun _ => ?_))
  · refine Eq.trans (rr_iinc (L' := [some (.inr (.inr l0)), some (.inl l1), some (.inl l2), some (.inl (am_w (l3 + 1))), some (.inl s0)]) rfl rfl rfl) ?_
    refine Eq.trans (rr_goto rfl rfl) ?_
    rfl
  · refine Eq.trans (rr_aload_n rfl rfl) ?_
    refine Eq.trans (rr_getfr rfl rfl rfl h1) ?_
    refine Eq.trans (rr_iload_n rfl rfl) ?_
    refine ck_it (fun h => rr_aaload rfl h) (fun h => rr_aaload_no rfl h) (fun h2 => ?_)
    refine Eq.trans (rr_aload_n rfl rfl) ?_
    refine Eq.trans (rr_getfr rfl rfl rfl h1) ?_
    refine Eq.trans (rr_iload_n rfl rfl) ?_
    refine ck_it (fun h => rr_aaload rfl h) (fun h => rr_aaload_no rfl h) (fun h3 => ?_)
    refine ck_it (fun h => rr_invV0i (S' := []) (L' := [some (.inr (.inr (am_get ω (am_get ω l0.toNat 4).toNat l2.toNat))), some (.inr (.inr (am_get ω (am_get ω l0.toNat 4).toNat l3.toNat)))]) (m' := (48, 0)) rfl rfl rfl rfl rfl rfl h) (fun h => rr_invV0_no (S' := []) (L' := [some (.inr (.inr (am_get ω (am_get ω l0.toNat 4).toNat l2.toNat))), some (.inr (.inr (am_get ω (am_get ω l0.toNat 4).toNat l3.toNat)))]) (m' := (48, 0)) rfl rfl rfl rfl rfl rfl h) (fun h4 => ?_)
    refine bi_cg (fun z1 ω1 => ?_)
    refine Eq.trans (rr_if_eq rfl rfl) (it_cg (fun _ => ?_) (fun _ => ?_))
    · refine Eq.trans (rr_iinc (L' := [some (.inr (.inr l0)), some (.inl l1), some (.inl l2), some (.inl (am_w (l3 + 1))), some (.inl s0)]) rfl rfl rfl) ?_
      refine Eq.trans (rr_goto rfl rfl) ?_
      rfl
    · refine Eq.trans (rr_iinc (L' := [some (.inr (.inr l0)), some (.inl (am_w (l1 + 1))), some (.inl l2), some (.inl l3), some (.inl s0)]) rfl rfl rfl) ?_
      refine Eq.trans (rr_iinc (L' := [some (.inr (.inr l0)), some (.inl (am_w (l1 + 1))), some (.inl l2), some (.inl (am_w (l3 + 1))), some (.inl s0)]) rfl rfl rfl) ?_
      refine Eq.trans (rr_goto rfl rfl) ?_
      rfl
theorem pX5_isClashBehind_0 (l0 l1 : Int) (ω : am_W) : am_run (79, 0) 0 ([some (.inr (.inr l0)), some (.inl l1), none, none, none], [], ω) = am_run (79, 0) 2 ([some (.inr (.inr l0)), some (.inl l1), some (.inl 0), none, none], [], ω) := by
  refine Eq.trans (rr_iconst rfl rfl) ?_
  refine Eq.trans (rr_istore_n (L' := [some (.inr (.inr l0)), some (.inl l1), some (.inl 0), none, none]) rfl rfl) ?_
  rfl
theorem pX5_isClashBehind_2 (l0 l1 l2 : Int) (o3 o4 : Option am_V) (ω : am_W) (h1 : am_is ω l0 (5, 8) = true) : am_run (79, 0) 2 ([some (.inr (.inr l0)), some (.inl l1), some (.inl l2), o3, o4], [], ω) = if (am_get ω l0.toNat 3) ≤ l2 then (some (some (.inl 0), ω)) else (am_run (79, 0) 14 ([some (.inr (.inr l0)), some (.inl l1), some (.inl l2), some (.inl (am_w (l2 + 1))), o4], [], ω)) := by
  refine Eq.trans (rr_iload_n rfl rfl) ?_
  refine Eq.trans (rr_aload_n rfl rfl) ?_
  refine Eq.trans (rr_getfi rfl rfl rfl h1) ?_
  refine Eq.trans (rr_icmp_ge rfl rfl) (it_cg (fun _ => ?_) (fun _ => ?_))
  · refine Eq.trans (rr_iconst rfl rfl) ?_
    exact rr_ireturn rfl rfl
  · refine Eq.trans (rr_iload_n rfl rfl) ?_
    refine Eq.trans (rr_iconst rfl rfl) ?_
    refine Eq.trans (rr_iadd rfl) ?_
    refine Eq.trans (rr_istore_n (L' := [some (.inr (.inr l0)), some (.inl l1), some (.inl l2), some (.inl (am_w (l2 + 1))), o4]) rfl rfl) ?_
    rfl
theorem pX5_isClashBehind_14 (l0 l1 l2 l3 : Int) (o4 : Option am_V) (ω : am_W) (h1 : am_is ω l0 (5, 8) = true) : am_run (79, 0) 14 ([some (.inr (.inr l0)), some (.inl l1), some (.inl l2), some (.inl l3), o4], [], ω) = if (am_get ω l0.toNat 3) ≤ l3 then (am_run (79, 0) 2 ([some (.inr (.inr l0)), some (.inl l1), some (.inl (am_w (l2 + 1))), some (.inl l3), o4], [], ω)) else (if am_ina ω (am_get ω l0.toNat 4) l2 = true then (am_bi (am_run (81, 0) 0 ([some (.inr (.inr l0)), some (.inr (.inr (am_get ω (am_get ω l0.toNat 4).toNat l2.toNat))), some (.inl l1)], [], ω)) (fun z1 ω1 => if z1 = ((-1)) then (am_run (79, 0) 14 ([some (.inr (.inr l0)), some (.inl l1), some (.inl l2), some (.inl (am_w (l3 + 1))), some (.inl z1)], [], ω1)) else (if am_is ω1 l0 (5, 8) = true then (if am_ina ω1 (am_get ω1 l0.toNat 4) l3 = true then (am_bi (am_run (81, 0) 0 ([some (.inr (.inr l0)), some (.inr (.inr (am_get ω1 (am_get ω1 l0.toNat 4).toNat l3.toNat))), some (.inl l1)], [], ω1)) (fun z2 ω2 => if ¬ z1 = z2 then (am_run (79, 0) 14 ([some (.inr (.inr l0)), some (.inl l1), some (.inl l2), some (.inl (am_w (l3 + 1))), some (.inl z1)], [], ω2)) else (some (some (.inl 1), ω2)))) else none) else none))) else none) := by
  refine Eq.trans (rr_iload_n rfl rfl) ?_
  refine Eq.trans (rr_aload_n rfl rfl) ?_
  refine Eq.trans (rr_getfi rfl rfl rfl h1) ?_
  refine Eq.trans (rr_icmp_ge rfl rfl) (it_cg (fun _ => ?_) (fun _ => ?_))
  · refine Eq.trans (rr_iinc (L' := [some (.inr (.inr l0)), some (.inl l1), some (.inl (am_w (l2 + 1))), some (.inl l3), o4]) rfl rfl rfl) ?_
    refine Eq.trans (rr_goto rfl rfl) ?_
    rfl
  · refine Eq.trans (rr_aload_n rfl rfl) ?_
    refine Eq.trans (rr_aload_n rfl rfl) ?_
    refine Eq.trans (rr_getfr rfl rfl rfl h1) ?_
    refine Eq.trans (rr_iload_n rfl rfl) ?_
    refine ck_it (fun h => rr_aaload rfl h) (fun h => rr_aaload_no rfl h) (fun h2 => ?_)
    refine Eq.trans (rr_iload_n rfl rfl) ?_
    refine Eq.trans (rr_invV0i (S' := []) (L' := [some (.inr (.inr l0)), some (.inr (.inr (am_get ω (am_get ω l0.toNat 4).toNat l2.toNat))), some (.inl l1)]) (m' := (81, 0)) rfl rfl rfl rfl rfl rfl h1) ?_
    refine bi_cg (fun z1 ω1 => ?_)
    refine Eq.trans (rr_istore (L' := [some (.inr (.inr l0)), some (.inl l1), some (.inl l2), some (.inl l3), some (.inl z1)]) rfl rfl) ?_
    refine Eq.trans (rr_iload rfl rfl) ?_
    refine Eq.trans (rr_iconst rfl rfl) ?_
    refine Eq.trans (rr_icmp_eq rfl rfl) (it_cg (fun _ => ?_) (fun _ => ?_))
    · refine Eq.trans (rr_iinc (L' := [some (.inr (.inr l0)), some (.inl l1), some (.inl l2), some (.inl (am_w (l3 + 1))), some (.inl z1)]) rfl rfl rfl) ?_
      refine Eq.trans (rr_goto rfl rfl) ?_
      rfl
    · refine Eq.trans (rr_iload rfl rfl) ?_
      refine Eq.trans (rr_aload_n rfl rfl) ?_
      refine Eq.trans (rr_aload_n rfl rfl) ?_
      refine ck_it (fun h => rr_getfr rfl rfl rfl h) (fun h => rr_getfield_no rfl rfl h) (fun h3 => ?_)
      refine Eq.trans (rr_iload_n rfl rfl) ?_
      refine ck_it (fun h => rr_aaload rfl h) (fun h => rr_aaload_no rfl h) (fun h4 => ?_)
      refine Eq.trans (rr_iload_n rfl rfl) ?_
      refine Eq.trans (rr_invV0i (S' := [.inl z1]) (L' := [some (.inr (.inr l0)), some (.inr (.inr (am_get ω1 (am_get ω1 l0.toNat 4).toNat l3.toNat))), some (.inl l1)]) (m' := (81, 0)) rfl rfl rfl rfl rfl rfl h3) ?_
      refine bi_cg (fun z2 ω2 => ?_)
      refine Eq.trans (rr_icmp_ne rfl rfl) (it_cg (fun _ => ?_) (fun _ => ?_))
      · refine Eq.trans (rr_iinc (L' := [some (.inr (.inr l0)), some (.inl l1), some (.inl l2), some (.inl (am_w (l3 + 1))), some (.inl z1)]) rfl rfl rfl) ?_
        refine Eq.trans (rr_goto rfl rfl) ?_
        rfl
      · refine Eq.trans (rr_iconst rfl rfl) ?_
        exact rr_ireturn rfl rfl
theorem pX5_spotOf_0 (l0 l1 : Int) (ω : am_W) (h1 : am_is ω l1 (4, 5) = true) : am_run (80, 0) 0 ([some (.inr (.inr l0)), some (.inr (.inr l1))], [], ω) = some (some (.inl (am_w ((am_w ((am_get ω l1.toNat 1) * 20)) + (am_get ω l1.toNat 2)))), ω) := by
  refine Eq.trans (rr_aload_n rfl rfl) ?_
  refine Eq.trans (rr_getfi rfl rfl rfl h1) ?_
  refine Eq.trans (rr_bipush rfl rfl) ?_
  refine Eq.trans (rr_imul rfl) ?_
  refine Eq.trans (rr_aload_n rfl rfl) ?_
  refine Eq.trans (rr_getfi rfl rfl rfl h1) ?_
  refine Eq.trans (rr_iadd rfl) ?_
  exact rr_ireturn rfl rfl
theorem pX5_spotBehind_0 (l0 l1 l2 : Int) (ω : am_W) (h1 : am_is ω l1 (4, 5) = true) : am_run (81, 0) 0 ([some (.inr (.inr l0)), some (.inr (.inr l1)), some (.inl l2)], [], ω) = am_bi (am_run (51, 0) 0 ([some (.inr (.inr l1)), some (.inl l2)], [], ω)) (fun z1 ω1 => if z1 ≤ 0 then (if am_is ω1 l1 (4, 5) = true then (if am_is ω1 l0 (5, 8) = true then (am_bi (am_run (75, 0) 0 ([some (.inr (.inr l0)), some (.inr (.inr l1)), some (.inl l2)], [], ω1)) (fun z2 ω2 => some (some (.inl (am_w ((am_w ((am_get ω1 l1.toNat 1) * 20)) + z2))), ω2))) else none) else none) else (some (some (.inl ((-1))), ω1))) := by
  refine Eq.trans (rr_aload_n rfl rfl) ?_
  refine Eq.trans (rr_iload_n rfl rfl) ?_
  refine Eq.trans (rr_invV0i (S' := []) (L' := [some (.inr (.inr l1)), some (.inl l2)]) (m' := (51, 0)) rfl rfl rfl rfl rfl rfl h1) ?_
  refine bi_cg (fun z1 ω1 => ?_)
  refine Eq.trans (rr_if_le rfl rfl) (it_cg (fun _ => ?_) (fun _ => ?_))
  · refine Eq.trans (rr_aload_n rfl rfl) ?_
    refine ck_it (fun h => rr_getfi rfl rfl rfl h) (fun h => rr_getfield_no rfl rfl h) (fun h2 => ?_)
    refine Eq.trans (rr_bipush rfl rfl) ?_
    refine Eq.trans (rr_imul rfl) ?_
    refine Eq.trans (rr_aload_n rfl rfl) ?_
    refine Eq.trans (rr_aload_n rfl rfl) ?_
    refine Eq.trans (rr_iload_n rfl rfl) ?_
    refine ck_it (fun h => rr_invV0i (S' := [.inl (am_w ((am_get ω1 l1.toNat 1) * 20))]) (L' := [some (.inr (.inr l0)), some (.inr (.inr l1)), some (.inl l2)]) (m' := (75, 0)) rfl rfl rfl rfl rfl rfl h) (fun h => rr_invV0_no (S' := [.inl (am_w ((am_get ω1 l1.toNat 1) * 20))]) (L' := [some (.inr (.inr l0)), some (.inr (.inr l1)), some (.inl l2)]) (m' := (75, 0)) rfl rfl rfl rfl rfl rfl h) (fun h3 => ?_)
    refine bi_cg (fun z2 ω2 => ?_)
    refine Eq.trans (rr_iadd rfl) ?_
    exact rr_ireturn rfl rfl
  · refine Eq.trans (rr_iconst rfl rfl) ?_
    exact rr_ireturn rfl rfl
theorem pX5_draw_0 (l0 l1 : Int) (ω : am_W) (h1 : am_is ω l0 (5, 8) = true) : am_run (82, 0) 0 ([some (.inr (.inr l0)), some (.inl l1)], [], ω) = am_bi (am_run (145, 0) 0 ([some (.inl (am_ushr (am_get (am_put ω l0.toNat 7 (am_w ((am_w ((am_get ω l0.toNat 7) * 1103515245)) + 12345))) l0.toNat 7) 16)), some (.inl l1)], [], am_put ω l0.toNat 7 (am_w ((am_w ((am_get ω l0.toNat 7) * 1103515245)) + 12345)))) (fun z1 ω1 => some (some (.inl z1), ω1)) := by
  refine Eq.trans (rr_aload_n rfl rfl) ?_
  refine Eq.trans (rr_aload_n rfl rfl) ?_
  refine Eq.trans (rr_getfi rfl rfl rfl h1) ?_
  refine Eq.trans (rr_ldc rfl rfl) ?_
  refine Eq.trans (rr_imul rfl) ?_
  refine Eq.trans (rr_sipush rfl rfl) ?_
  refine Eq.trans (rr_iadd rfl) ?_
  refine Eq.trans (rr_putfieldi rfl rfl rfl h1) ?_
  refine Eq.trans (rr_aload_n rfl rfl) ?_
  refine Eq.trans (rr_getfi rfl rfl rfl h1) ?_
  refine Eq.trans (rr_bipush rfl rfl) ?_
  refine Eq.trans (rr_iushr rfl) ?_
  refine Eq.trans (rr_iload_n rfl rfl) ?_
  refine Eq.trans (rr_invS3i (S' := []) (L' := [some (.inl (am_ushr (am_get (am_put ω l0.toNat 7 (am_w ((am_w ((am_get ω l0.toNat 7) * 1103515245)) + 12345))) l0.toNat 7) 16)), some (.inl l1)]) (m' := (145, 0)) rfl rfl rfl rfl rfl rfl) ?_
  refine bi_cg (fun z1 ω1 => ?_)
  exact rr_ireturn rfl rfl
theorem pJ6_bitCount_0f7a4_0 (l0 : Int) (ω : am_W) : am_run (234, 0) 0 ([some (.inl l0)], [], ω) = some (some (.inl (am_and (am_w ((am_w ((am_and (am_w ((am_w ((am_and (am_w (l0 - (am_and (am_ushr l0 1) 1431655765))) 858993459) + (am_and (am_ushr (am_w (l0 - (am_and (am_ushr l0 1) 1431655765))) 2) 858993459))) + (am_ushr (am_w ((am_and (am_w (l0 - (am_and (am_ushr l0 1) 1431655765))) 858993459) + (am_and (am_ushr (am_w (l0 - (am_and (am_ushr l0 1) 1431655765))) 2) 858993459))) 4))) 252645135) + (am_ushr (am_and (am_w ((am_w ((am_and (am_w (l0 - (am_and (am_ushr l0 1) 1431655765))) 858993459) + (am_and (am_ushr (am_w (l0 - (am_and (am_ushr l0 1) 1431655765))) 2) 858993459))) + (am_ushr (am_w ((am_and (am_w (l0 - (am_and (am_ushr l0 1) 1431655765))) 858993459) + (am_and (am_ushr (am_w (l0 - (am_and (am_ushr l0 1) 1431655765))) 2) 858993459))) 4))) 252645135) 8))) + (am_ushr (am_w ((am_and (am_w ((am_w ((am_and (am_w (l0 - (am_and (am_ushr l0 1) 1431655765))) 858993459) + (am_and (am_ushr (am_w (l0 - (am_and (am_ushr l0 1) 1431655765))) 2) 858993459))) + (am_ushr (am_w ((am_and (am_w (l0 - (am_and (am_ushr l0 1) 1431655765))) 858993459) + (am_and (am_ushr (am_w (l0 - (am_and (am_ushr l0 1) 1431655765))) 2) 858993459))) 4))) 252645135) + (am_ushr (am_and (am_w ((am_w ((am_and (am_w (l0 - (am_and (am_ushr l0 1) 1431655765))) 858993459) + (am_and (am_ushr (am_w (l0 - (am_and (am_ushr l0 1) 1431655765))) 2) 858993459))) + (am_ushr (am_w ((am_and (am_w (l0 - (am_and (am_ushr l0 1) 1431655765))) 858993459) + (am_and (am_ushr (am_w (l0 - (am_and (am_ushr l0 1) 1431655765))) 2) 858993459))) 4))) 252645135) 8))) 16))) 63)), ω) := by
  refine Eq.trans (rr_iload_n rfl rfl) ?_
  refine Eq.trans (rr_iload_n rfl rfl) ?_
  refine Eq.trans (rr_iconst rfl rfl) ?_
  refine Eq.trans (rr_iushr rfl) ?_
  refine Eq.trans (rr_ldc_w rfl rfl) ?_
  refine Eq.trans (rr_iand rfl) ?_
  refine Eq.trans (rr_isub rfl) ?_
  refine Eq.trans (rr_istore_n (L' := [some (.inl (am_w (l0 - (am_and (am_ushr l0 1) 1431655765))))]) rfl rfl) ?_
  refine Eq.trans (rr_iload_n rfl rfl) ?_
  refine Eq.trans (rr_ldc_w rfl rfl) ?_
  refine Eq.trans (rr_iand rfl) ?_
  refine Eq.trans (rr_iload_n rfl rfl) ?_
  refine Eq.trans (rr_iconst rfl rfl) ?_
  refine Eq.trans (rr_iushr rfl) ?_
  refine Eq.trans (rr_ldc_w rfl rfl) ?_
  refine Eq.trans (rr_iand rfl) ?_
  refine Eq.trans (rr_iadd rfl) ?_
  refine Eq.trans (rr_istore_n (L' := [some (.inl (am_w ((am_and (am_w (l0 - (am_and (am_ushr l0 1) 1431655765))) 858993459) + (am_and (am_ushr (am_w (l0 - (am_and (am_ushr l0 1) 1431655765))) 2) 858993459))))]) rfl rfl) ?_
  refine Eq.trans (rr_iload_n rfl rfl) ?_
  refine Eq.trans (rr_iload_n rfl rfl) ?_
  refine Eq.trans (rr_iconst rfl rfl) ?_
  refine Eq.trans (rr_iushr rfl) ?_
  refine Eq.trans (rr_iadd rfl) ?_
  refine Eq.trans (rr_ldc_w rfl rfl) ?_
  refine Eq.trans (rr_iand rfl) ?_
  refine Eq.trans (rr_istore_n (L' := [some (.inl (am_and (am_w ((am_w ((am_and (am_w (l0 - (am_and (am_ushr l0 1) 1431655765))) 858993459) + (am_and (am_ushr (am_w (l0 - (am_and (am_ushr l0 1) 1431655765))) 2) 858993459))) + (am_ushr (am_w ((am_and (am_w (l0 - (am_and (am_ushr l0 1) 1431655765))) 858993459) + (am_and (am_ushr (am_w (l0 - (am_and (am_ushr l0 1) 1431655765))) 2) 858993459))) 4))) 252645135))]) rfl rfl) ?_
  refine Eq.trans (rr_iload_n rfl rfl) ?_
  refine Eq.trans (rr_iload_n rfl rfl) ?_
  refine Eq.trans (rr_bipush rfl rfl) ?_
  refine Eq.trans (rr_iushr rfl) ?_
  refine Eq.trans (rr_iadd rfl) ?_
  refine Eq.trans (rr_istore_n (L' := [some (.inl (am_w ((am_and (am_w ((am_w ((am_and (am_w (l0 - (am_and (am_ushr l0 1) 1431655765))) 858993459) + (am_and (am_ushr (am_w (l0 - (am_and (am_ushr l0 1) 1431655765))) 2) 858993459))) + (am_ushr (am_w ((am_and (am_w (l0 - (am_and (am_ushr l0 1) 1431655765))) 858993459) + (am_and (am_ushr (am_w (l0 - (am_and (am_ushr l0 1) 1431655765))) 2) 858993459))) 4))) 252645135) + (am_ushr (am_and (am_w ((am_w ((am_and (am_w (l0 - (am_and (am_ushr l0 1) 1431655765))) 858993459) + (am_and (am_ushr (am_w (l0 - (am_and (am_ushr l0 1) 1431655765))) 2) 858993459))) + (am_ushr (am_w ((am_and (am_w (l0 - (am_and (am_ushr l0 1) 1431655765))) 858993459) + (am_and (am_ushr (am_w (l0 - (am_and (am_ushr l0 1) 1431655765))) 2) 858993459))) 4))) 252645135) 8))))]) rfl rfl) ?_
  refine Eq.trans (rr_iload_n rfl rfl) ?_
  refine Eq.trans (rr_iload_n rfl rfl) ?_
  refine Eq.trans (rr_bipush rfl rfl) ?_
  refine Eq.trans (rr_iushr rfl) ?_
  refine Eq.trans (rr_iadd rfl) ?_
  refine Eq.trans (rr_istore_n (L' := [some (.inl (am_w ((am_w ((am_and (am_w ((am_w ((am_and (am_w (l0 - (am_and (am_ushr l0 1) 1431655765))) 858993459) + (am_and (am_ushr (am_w (l0 - (am_and (am_ushr l0 1) 1431655765))) 2) 858993459))) + (am_ushr (am_w ((am_and (am_w (l0 - (am_and (am_ushr l0 1) 1431655765))) 858993459) + (am_and (am_ushr (am_w (l0 - (am_and (am_ushr l0 1) 1431655765))) 2) 858993459))) 4))) 252645135) + (am_ushr (am_and (am_w ((am_w ((am_and (am_w (l0 - (am_and (am_ushr l0 1) 1431655765))) 858993459) + (am_and (am_ushr (am_w (l0 - (am_and (am_ushr l0 1) 1431655765))) 2) 858993459))) + (am_ushr (am_w ((am_and (am_w (l0 - (am_and (am_ushr l0 1) 1431655765))) 858993459) + (am_and (am_ushr (am_w (l0 - (am_and (am_ushr l0 1) 1431655765))) 2) 858993459))) 4))) 252645135) 8))) + (am_ushr (am_w ((am_and (am_w ((am_w ((am_and (am_w (l0 - (am_and (am_ushr l0 1) 1431655765))) 858993459) + (am_and (am_ushr (am_w (l0 - (am_and (am_ushr l0 1) 1431655765))) 2) 858993459))) + (am_ushr (am_w ((am_and (am_w (l0 - (am_and (am_ushr l0 1) 1431655765))) 858993459) + (am_and (am_ushr (am_w (l0 - (am_and (am_ushr l0 1) 1431655765))) 2) 858993459))) 4))) 252645135) + (am_ushr (am_and (am_w ((am_w ((am_and (am_w (l0 - (am_and (am_ushr l0 1) 1431655765))) 858993459) + (am_and (am_ushr (am_w (l0 - (am_and (am_ushr l0 1) 1431655765))) 2) 858993459))) + (am_ushr (am_w ((am_and (am_w (l0 - (am_and (am_ushr l0 1) 1431655765))) 858993459) + (am_and (am_ushr (am_w (l0 - (am_and (am_ushr l0 1) 1431655765))) 2) 858993459))) 4))) 252645135) 8))) 16))))]) rfl rfl) ?_
  refine Eq.trans (rr_iload_n rfl rfl) ?_
  refine Eq.trans (rr_bipush rfl rfl) ?_
  refine Eq.trans (rr_iand rfl) ?_
  exact rr_ireturn rfl rfl
theorem pJ9_abs_0f7a4_0 (l0 : Int) (ω : am_W) : am_run (235, 0) 0 ([some (.inl l0)], [], ω) = if 0 ≤ l0 then (some (some (.inl l0), ω)) else (some (some (.inl (am_w (-l0))), ω)) := by
  refine Eq.trans (rr_iload_n rfl rfl) ?_
  refine Eq.trans (rr_if_ge rfl rfl) (it_cg (fun _ => ?_) (fun _ => ?_))
  · refine Eq.trans (rr_iload_n rfl rfl) ?_
    exact rr_ireturn rfl rfl
  · refine Eq.trans (rr_iload_n rfl rfl) ?_
    refine Eq.trans (rr_ineg rfl) ?_
    refine Eq.trans (rr_goto rfl rfl) ?_
    exact rr_ireturn rfl rfl
theorem pJ9_max_7cf53_0 (l0 l1 : Int) (ω : am_W) : am_run (236, 0) 0 ([some (.inl l0), some (.inl l1)], [], ω) = if l0 < l1 then (some (some (.inl l1), ω)) else (some (some (.inl l0), ω)) := by
  refine Eq.trans (rr_iload_n rfl rfl) ?_
  refine Eq.trans (rr_iload_n rfl rfl) ?_
  refine Eq.trans (rr_icmp_lt rfl rfl) (it_cg (fun _ => ?_) (fun _ => ?_))
  · refine Eq.trans (rr_iload_n rfl rfl) ?_
    exact rr_ireturn rfl rfl
  · refine Eq.trans (rr_iload_n rfl rfl) ?_
    refine Eq.trans (rr_goto rfl rfl) ?_
    exact rr_ireturn rfl rfl
theorem pJ9_min_7cf53_0 (l0 l1 : Int) (ω : am_W) : am_run (237, 0) 0 ([some (.inl l0), some (.inl l1)], [], ω) = if l1 < l0 then (some (some (.inl l1), ω)) else (some (some (.inl l0), ω)) := by
  refine Eq.trans (rr_iload_n rfl rfl) ?_
  refine Eq.trans (rr_iload_n rfl rfl) ?_
  refine Eq.trans (rr_icmp_gt rfl rfl) (it_cg (fun _ => ?_) (fun _ => ?_))
  · refine Eq.trans (rr_iload_n rfl rfl) ?_
    exact rr_ireturn rfl rfl
  · refine Eq.trans (rr_iload_n rfl rfl) ?_
    refine Eq.trans (rr_goto rfl rfl) ?_
    exact rr_ireturn rfl rfl
theorem pJ7_fill_d0a16_0 (l0 l1 : Int) (ω : am_W) : am_run (238, 0) 0 ([some (.inr (.inr l0)), some (.inr (.inl l1)), none, none, none], [], ω) = if am_arl ω l0 = true then (am_run (238, 0) 6 ([some (.inr (.inr l0)), some (.inr (.inl l1)), none, some (.inl 0), some (.inl (am_len ω l0))], [], ω)) else none := by
  refine Eq.trans (rr_iconst rfl rfl) ?_
  refine Eq.trans (rr_istore_n (L' := [some (.inr (.inr l0)), some (.inr (.inl l1)), none, some (.inl 0), none]) rfl rfl) ?_
  refine Eq.trans (rr_aload_n rfl rfl) ?_
  refine ck_it (fun h => rr_arraylength rfl rfl h) (fun h => rr_arraylength_no rfl rfl h) (fun h1 => ?_)
  refine Eq.trans (rr_istore (L' := [some (.inr (.inr l0)), some (.inr (.inl l1)), none, some (.inl 0), some (.inl (am_len ω l0))]) rfl rfl) ?_
  rfl
theorem pJ7_fill_d0a16_6 (l0 l1 l3 l4 : Int) (ω : am_W) : am_run (238, 0) 6 ([some (.inr (.inr l0)), some (.inr (.inl l1)), none, some (.inl l3), some (.inl l4)], [], ω) = if l4 ≤ l3 then (some (none, ω)) else (if am_in ω l0 101 l3 = true then (am_run (238, 0) 6 ([some (.inr (.inr l0)), some (.inr (.inl l1)), none, some (.inl (am_w (l3 + 1))), some (.inl l4)], [], am_put ω l0.toNat l3.toNat l1)) else none) := by
  refine Eq.trans (rr_iload_n rfl rfl) ?_
  refine Eq.trans (rr_iload rfl rfl) ?_
  refine Eq.trans (rr_icmp_ge rfl rfl) (it_cg (fun _ => ?_) (fun _ => ?_))
  · exact rr_return rfl rfl
  · refine Eq.trans (rr_aload_n rfl rfl) ?_
    refine Eq.trans (rr_iload_n rfl rfl) ?_
    refine Eq.trans (rr_lload_n rfl rfl) ?_
    refine ck_it (fun h => rr_lastore rfl h) (fun h => rr_lastore_no rfl h) (fun h1 => ?_)
    refine Eq.trans (rr_iinc (L' := [some (.inr (.inr l0)), some (.inr (.inl l1)), none, some (.inl (am_w (l3 + 1))), some (.inl l4)]) rfl rfl rfl) ?_
    refine Eq.trans (rr_goto rfl rfl) ?_
    rfl
theorem pJ7_fill_53178_0 (l0 l1 : Int) (ω : am_W) : am_run (239, 0) 0 ([some (.inr (.inr l0)), some (.inl l1), none, none], [], ω) = if am_arl ω l0 = true then (am_run (239, 0) 5 ([some (.inr (.inr l0)), some (.inl l1), some (.inl 0), some (.inl (am_len ω l0))], [], ω)) else none := by
  refine Eq.trans (rr_iconst rfl rfl) ?_
  refine Eq.trans (rr_istore_n (L' := [some (.inr (.inr l0)), some (.inl l1), some (.inl 0), none]) rfl rfl) ?_
  refine Eq.trans (rr_aload_n rfl rfl) ?_
  refine ck_it (fun h => rr_arraylength rfl rfl h) (fun h => rr_arraylength_no rfl rfl h) (fun h1 => ?_)
  refine Eq.trans (rr_istore_n (L' := [some (.inr (.inr l0)), some (.inl l1), some (.inl 0), some (.inl (am_len ω l0))]) rfl rfl) ?_
  rfl
theorem pJ7_fill_53178_5 (l0 l1 l2 l3 : Int) (ω : am_W) : am_run (239, 0) 5 ([some (.inr (.inr l0)), some (.inl l1), some (.inl l2), some (.inl l3)], [], ω) = if l3 ≤ l2 then (some (none, ω)) else (if am_in ω l0 100 l2 = true then (am_run (239, 0) 5 ([some (.inr (.inr l0)), some (.inl l1), some (.inl (am_w (l2 + 1))), some (.inl l3)], [], am_put ω l0.toNat l2.toNat l1)) else none) := by
  refine Eq.trans (rr_iload_n rfl rfl) ?_
  refine Eq.trans (rr_iload_n rfl rfl) ?_
  refine Eq.trans (rr_icmp_ge rfl rfl) (it_cg (fun _ => ?_) (fun _ => ?_))
  · exact rr_return rfl rfl
  · refine Eq.trans (rr_aload_n rfl rfl) ?_
    refine Eq.trans (rr_iload_n rfl rfl) ?_
    refine Eq.trans (rr_iload_n rfl rfl) ?_
    refine ck_it (fun h => rr_iastore rfl h) (fun h => rr_iastore_no rfl h) (fun h1 => ?_)
    refine Eq.trans (rr_iinc (L' := [some (.inr (.inr l0)), some (.inl l1), some (.inl (am_w (l2 + 1))), some (.inl l3)]) rfl rfl rfl) ?_
    refine Eq.trans (rr_goto rfl rfl) ?_
    rfl
