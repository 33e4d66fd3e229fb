theorem pX0_init_0 (l0 l1 : Int) (ω : am_W) (h1 : 0 ≤ l0) : am_run (0, 0) 0 ([some (.inr (.inr l0)), some (.inr (.inr l1)), none], [], ω) = if am_is (am_new ω (102, 6) (fun _ => -1)) l0 (0, 3) = true then (am_run (0, 0) 13 ([some (.inr (.inr l0)), some (.inr (.inr l1)), none], [], am_put (am_new ω (102, 6) (fun _ => -1)) l0.toNat 1 (((ω).1.length : Int)))) else none := by
  refine Eq.trans (rr_aload_n rfl rfl) ?_
  refine Eq.trans (rr_objInit rfl rfl rfl (decide_eq_true h1) rfl) ?_
  refine Eq.trans (rr_aload_n rfl rfl) ?_
  refine Eq.trans (rr_bipush rfl rfl) ?_
  refine Eq.trans (rr_anewarrayV rfl rfl rfl) ?_
  refine ck_it (fun h => rr_putfieldr rfl rfl (by rw [Bool.and_eq_true, Bool.and_eq_true]; exact ⟨rfl, rfl, decide_eq_true (by omega)⟩) h) (fun h => rr_putfieldr_no rfl rfl h) (fun h2 => ?_)
  rfl
theorem pX0_init_13 (l0 l1 : Int) (o2 : Option am_V) (ω : am_W) : am_run (0, 0) 13 ([some (.inr (.inr l0)), some (.inr (.inr l1)), o2], [], ω) = if am_is (am_new ω (102, 6) (fun _ => -1)) l0 (0, 3) = true then (am_run (0, 0) 22 ([some (.inr (.inr l0)), some (.inr (.inr l1)), o2], [], am_put (am_new ω (102, 6) (fun _ => -1)) l0.toNat 2 (((ω).1.length : Int)))) else none := by
  refine Eq.trans (rr_aload_n rfl rfl) ?_
  refine Eq.trans (rr_bipush rfl rfl) ?_
  refine Eq.trans (rr_anewarrayV rfl rfl rfl) ?_
  refine ck_it (fun h => rr_putfieldr rfl rfl (by rw [Bool.and_eq_true, Bool.and_eq_true]; exact ⟨rfl, rfl, decide_eq_true (by omega)⟩) h) (fun h => rr_putfieldr_no rfl rfl h) (fun h1 => ?_)
  rfl
theorem pX0_init_22 (l0 l1 : Int) (o2 : Option am_V) (ω : am_W) (h1 : -1 ≤ l1) (h2 : am_is ω l0 (0, 3) = true) : am_run (0, 0) 22 ([some (.inr (.inr l0)), some (.inr (.inr l1)), o2], [], ω) = am_run (0, 0) 29 ([some (.inr (.inr l0)), some (.inr (.inr l1)), some (.inl 0)], [], am_put ω l0.toNat 0 l1) := by
  refine Eq.trans (rr_aload_n rfl rfl) ?_
  refine Eq.trans (rr_aload_n rfl rfl) ?_
  refine Eq.trans (rr_putfieldr rfl rfl (by rw [Bool.and_eq_true, Bool.and_eq_true]; exact ⟨rfl, rfl, decide_eq_true (h1)⟩) h2) ?_
  refine Eq.trans (rr_iconst rfl rfl) ?_
  refine Eq.trans (rr_istore_n (L' := [some (.inr (.inr l0)), some (.inr (.inr l1)), some (.inl 0)]) rfl rfl) ?_
  rfl
theorem pX0_init_29 (l0 l1 l2 : Int) (ω : am_W) (h1 : am_is ω l0 (0, 3) = true) : am_run (0, 0) 29 ([some (.inr (.inr l0)), some (.inr (.inr l1)), some (.inl l2)], [], ω) = if 5 < l2 then (some (none, ω)) else (if am_is (am_new ω (4, 5) (am_d0 4)) (((ω).1.length : Int)) (4, 5) = true then (am_bv (am_run (46, 0) 0 ([some (.inr (.inr (((ω).1.length : Int))))], [], am_new ω (4, 5) (am_d0 4))) (fun ω2 => if am_sta2 ω2 (am_get ω l0.toNat 1) l2 (((ω).1.length : Int)) = true then (am_run (0, 0) 47 ([some (.inr (.inr l0)), some (.inr (.inr l1)), some (.inl l2)], [], am_put ω2 (am_get ω l0.toNat 1).toNat l2.toNat (((ω).1.length : Int)))) else none)) else none) := by
  refine Eq.trans (rr_iload_n rfl rfl) ?_
  refine Eq.trans (rr_iconst rfl rfl) ?_
  refine Eq.trans (rr_icmp_gt rfl rfl) (it_cg (fun _ => ?_) (fun _ => ?_))
  · exact rr_return rfl rfl
  · refine Eq.trans (rr_aload_n rfl rfl) ?_
    refine Eq.trans (rr_getfr rfl rfl rfl h1) ?_
    refine Eq.trans (rr_iload_n rfl rfl) ?_
    refine Eq.trans (rr_new rfl rfl rfl) ?_
    refine Eq.trans (rr_dupr rfl) ?_
    refine ck_it (fun h => rr_invI5v (S' := [.inr (.inr (((ω).1.length : Int))), .inl l2, .inr (.inr (am_get ω l0.toNat 1))]) (L' := [some (.inr (.inr (((ω).1.length : Int))))]) (m' := (46, 0)) rfl rfl rfl rfl rfl rfl h) (fun h => rr_invI5_no (S' := [.inr (.inr (((ω).1.length : Int))), .inl l2, .inr (.inr (am_get ω l0.toNat 1))]) (L' := [some (.inr (.inr (((ω).1.length : Int))))]) (m' := (46, 0)) rfl rfl rfl rfl rfl rfl h) (fun h2 => ?_)
    refine bv_cg (fun ω2 => ?_)
    refine ck_it (fun h => rr_aastore rfl h) (fun h => rr_aastore_no rfl h) (fun h3 => ?_)
    rfl
theorem pX0_init_47 (l0 l1 l2 : Int) (ω : am_W) (h1 : am_is ω l0 (0, 3) = true) : am_run (0, 0) 47 ([some (.inr (.inr l0)), some (.inr (.inr l1)), some (.inl l2)], [], ω) = if am_is (am_new ω (4, 5) (am_d0 4)) (((ω).1.length : Int)) (4, 5) = true then (am_bv (am_run (46, 0) 0 ([some (.inr (.inr (((ω).1.length : Int))))], [], am_new ω (4, 5) (am_d0 4))) (fun ω2 => if am_sta2 ω2 (am_get ω l0.toNat 2) l2 (((ω).1.length : Int)) = true then (am_run (0, 0) 60 ([some (.inr (.inr l0)), some (.inr (.inr l1)), some (.inl l2)], [], am_put ω2 (am_get ω l0.toNat 2).toNat l2.toNat (((ω).1.length : Int)))) else none)) else none := by
  refine Eq.trans (rr_aload_n rfl rfl) ?_
  refine Eq.trans (rr_getfr rfl rfl rfl h1) ?_
  refine Eq.trans (rr_iload_n rfl rfl) ?_
  refine Eq.trans (rr_new rfl rfl rfl) ?_
  refine Eq.trans (rr_dupr rfl) ?_
  refine ck_it (fun h => rr_invI5v (S' := [.inr (.inr (((ω).1.length : Int))), .inl l2, .inr (.inr (am_get ω l0.toNat 2))]) (L' := [some (.inr (.inr (((ω).1.length : Int))))]) (m' := (46, 0)) rfl rfl rfl rfl rfl rfl h) (fun h => rr_invI5_no (S' := [.inr (.inr (((ω).1.length : Int))), .inl l2, .inr (.inr (am_get ω l0.toNat 2))]) (L' := [some (.inr (.inr (((ω).1.length : Int))))]) (m' := (46, 0)) rfl rfl rfl rfl rfl rfl h) (fun h2 => ?_)
  refine bv_cg (fun ω2 => ?_)
  refine ck_it (fun h => rr_aastore rfl h) (fun h => rr_aastore_no rfl h) (fun h3 => ?_)
  rfl
theorem pX0_init_60 (l0 l1 l2 : Int) (ω : am_W) : am_run (0, 0) 60 ([some (.inr (.inr l0)), some (.inr (.inr l1)), some (.inl l2)], [], ω) = am_run (0, 0) 29 ([some (.inr (.inr l0)), some (.inr (.inr l1)), some (.inl (am_w (l2 + 1)))], [], ω) := by
  refine Eq.trans (rr_iinc (L' := [some (.inr (.inr l0)), some (.inr (.inr l1)), some (.inl (am_w (l2 + 1)))]) rfl rfl rfl) ?_
  refine Eq.trans (rr_goto rfl rfl) ?_
  rfl
theorem pX0_isWon_0 (l0 l1 l2 l3 : Int) (ω : am_W) (h1 : am_is ω l0 (0, 3) = true) (h3 : am_is ω (am_get ω l0.toNat 0) (5, 8) = true) : am_run (1, 0) 0 ([some (.inr (.inr l0)), some (.inl l1), some (.inl l2), some (.inl l3)], [], ω) = if am_ina ω (am_get ω l0.toNat 1) 0 = true then (if am_ina ω (am_get ω (am_get ω l0.toNat 0).toNat 4) l1 = true then (if am_is ω (am_get ω (am_get ω l0.toNat 1).toNat 0) (4, 5) = true then (am_bv (am_run (47, 0) 0 ([some (.inr (.inr (am_get ω (am_get ω l0.toNat 1).toNat 0))), some (.inr (.inr (am_get ω (am_get ω (am_get ω l0.toNat 0).toNat 4).toNat l1.toNat)))], [], ω)) (fun ω1 => if am_is ω1 l0 (0, 3) = true then (if am_ina ω1 (am_get ω1 l0.toNat 2) 0 = true then (if am_is ω1 (am_get ω1 l0.toNat 0) (5, 8) = true then (if am_ina ω1 (am_get ω1 (am_get ω1 l0.toNat 0).toNat 4) l2 = true then (if am_is ω1 (am_get ω1 (am_get ω1 l0.toNat 2).toNat 0) (4, 5) = true then (am_bv (am_run (47, 0) 0 ([some (.inr (.inr (am_get ω1 (am_get ω1 l0.toNat 2).toNat 0))), some (.inr (.inr (am_get ω1 (am_get ω1 (am_get ω1 l0.toNat 0).toNat 4).toNat l2.toNat)))], [], ω1)) (fun ω2 => if am_is ω2 l0 (0, 3) = true then (am_bi (am_run (2, 12) 0 ([some (.inr (.inr l0)), some (.inl 0), some (.inl l3), none], [], ω2)) (fun z3 ω3 => if am_nar 4 z3 = true then (some (some (.inl z3), ω3)) else none)) else none)) else none) else none) else none) else none) else none)) else none) else none) else none := by
  refine Eq.trans (rr_aload_n rfl rfl) ?_
  refine Eq.trans (rr_getfr rfl rfl rfl h1) ?_
  refine Eq.trans (rr_iconst rfl rfl) ?_
  refine ck_it (fun h => rr_aaload rfl h) (fun h => rr_aaload_no rfl h) (fun h2 => ?_)
  refine Eq.trans (rr_aload_n rfl rfl) ?_
  refine Eq.trans (rr_getfr rfl rfl rfl h1) ?_
  refine Eq.trans (rr_getfr rfl rfl rfl h3) ?_
  refine Eq.trans (rr_iload_n rfl rfl) ?_
  refine ck_it (fun h => rr_aaload rfl h) (fun h => rr_aaload_no rfl h) (fun h4 => ?_)
  refine ck_it (fun h => rr_invV0v (S' := []) (L' := [some (.inr (.inr (am_get ω (am_get ω l0.toNat 1).toNat 0))), some (.inr (.inr (am_get ω (am_get ω (am_get ω l0.toNat 0).toNat 4).toNat l1.toNat)))]) (m' := (47, 0)) rfl rfl rfl rfl rfl rfl h) (fun h => rr_invV0_no (S' := []) (L' := [some (.inr (.inr (am_get ω (am_get ω l0.toNat 1).toNat 0))), some (.inr (.inr (am_get ω (am_get ω (am_get ω l0.toNat 0).toNat 4).toNat l1.toNat)))]) (m' := (47, 0)) rfl rfl rfl rfl rfl rfl h) (fun h5 => ?_)
  refine bv_cg (fun ω1 => ?_)
  refine Eq.trans (rr_aload_n rfl rfl) ?_
  refine ck_it (fun h => rr_getfr rfl rfl rfl h) (fun h => rr_getfield_no rfl rfl h) (fun h6 => ?_)
  refine Eq.trans (rr_iconst rfl rfl) ?_
  refine ck_it (fun h => rr_aaload rfl h) (fun h => rr_aaload_no rfl h) (fun h7 => ?_)
  refine Eq.trans (rr_aload_n rfl rfl) ?_
  refine Eq.trans (rr_getfr rfl rfl rfl h6) ?_
  refine ck_it (fun h => rr_getfr rfl rfl rfl h) (fun h => rr_getfield_no rfl rfl h) (fun h8 => ?_)
  refine Eq.trans (rr_iload_n rfl rfl) ?_
  refine ck_it (fun h => rr_aaload rfl h) (fun h => rr_aaload_no rfl h) (fun h9 => ?_)
  refine ck_it (fun h => rr_invV0v (S' := []) (L' := [some (.inr (.inr (am_get ω1 (am_get ω1 l0.toNat 2).toNat 0))), some (.inr (.inr (am_get ω1 (am_get ω1 (am_get ω1 l0.toNat 0).toNat 4).toNat l2.toNat)))]) (m' := (47, 0)) rfl rfl rfl rfl rfl rfl h) (fun h => rr_invV0_no (S' := []) (L' := [some (.inr (.inr (am_get ω1 (am_get ω1 l0.toNat 2).toNat 0))), some (.inr (.inr (am_get ω1 (am_get ω1 (am_get ω1 l0.toNat 0).toNat 4).toNat l2.toNat)))]) (m' := (47, 0)) rfl rfl rfl rfl rfl rfl h) (fun h10 => ?_)
  refine bv_cg (fun ω2 => ?_)
  refine Eq.trans (rr_aload_n rfl rfl) ?_
  refine Eq.trans (rr_iconst rfl rfl) ?_
  refine Eq.trans (rr_iload_n rfl rfl) ?_
  refine ck_it (fun h => rr_invV0i (S' := []) (L' := [some (.inr (.inr l0)), some (.inl 0), some (.inl l3), none]) (m' := (2, 12)) rfl rfl rfl rfl rfl rfl h) (fun h => rr_invV0_no (S' := []) (L' := [some (.inr (.inr l0)), some (.inl 0), some (.inl l3), none]) (m' := (2, 12)) rfl rfl rfl rfl rfl rfl h) (fun h11 => ?_)
  refine bi_cg (fun z3 ω3 => ?_)
  exact ck_it (fun h => rr_ireturn rfl h) (fun h => rr_ireturn_no rfl h) (fun _ => rfl)
theorem pX0_catches_0 (lv : Nat) (l0 l1 l2 : Int) (ω : am_W) (h1 : am_is ω l0 (0, 3) = true) : am_run (2, lv + 1) 0 ([some (.inr (.inr l0)), some (.inl l1), some (.inl l2), none], [], ω) = if am_ina ω (am_get ω l0.toNat 1) l1 = true then (if am_ina ω (am_get ω l0.toNat 2) l1 = true then (if am_is ω (am_get ω (am_get ω l0.toNat 1).toNat l1.toNat) (4, 5) = true then (am_bi (am_run (48, 0) 0 ([some (.inr (.inr (am_get ω (am_get ω l0.toNat 1).toNat l1.toNat))), some (.inr (.inr (am_get ω (am_get ω l0.toNat 2).toNat l1.toNat)))], [], ω)) (fun z1 ω1 => if z1 = 0 then (if l2 ≤ l1 then (some (some (.inl 0), ω1)) else (if l1 < 5 then (am_run (2, lv + 1) 34 ([some (.inr (.inr l0)), some (.inl l1), some (.inl l2), some (.inl 0)], [], ω1)) else (some (some (.inl 0), ω1)))) else (some (some (.inl 1), ω1)))) else none) else none) else none := by
  refine Eq.trans (rr_aload_n rfl rfl) ?_
  refine Eq.trans (rr_getfr rfl rfl rfl h1) ?_
  refine Eq.trans (rr_iload_n rfl rfl) ?_
  refine ck_it (fun h => rr_aaload rfl h) (fun h => rr_aaload_no rfl h) (fun h2 => ?_)
  refine Eq.trans (rr_aload_n rfl rfl) ?_
  refine Eq.trans (rr_getfr rfl rfl rfl h1) ?_
  refine Eq.trans (rr_iload_n rfl rfl) ?_
  refine ck_it (fun h => rr_aaload rfl h) (fun h => rr_aaload_no rfl h) (fun h3 => ?_)
  refine ck_it (fun h => rr_invV0i (S' := []) (L' := [some (.inr (.inr (am_get ω (am_get ω l0.toNat 1).toNat l1.toNat))), some (.inr (.inr (am_get ω (am_get ω l0.toNat 2).toNat l1.toNat)))]) (m' := (48, 0)) rfl rfl rfl rfl (by rw [Bool.and_eq_true]; exact ⟨Nat.ble_eq_true_of_le (show (0 + 0) + 1 ≤ 4 + (lv + 1) by omega), rfl⟩) rfl h) (fun h => rr_invV0_no (S' := []) (L' := [some (.inr (.inr (am_get ω (am_get ω l0.toNat 1).toNat l1.toNat))), some (.inr (.inr (am_get ω (am_get ω l0.toNat 2).toNat l1.toNat)))]) (m' := (48, 0)) rfl rfl rfl rfl (by rw [Bool.and_eq_true]; exact ⟨Nat.ble_eq_true_of_le (show (0 + 0) + 1 ≤ 4 + (lv + 1) by omega), rfl⟩) rfl h) (fun h4 => ?_)
  refine bi_cg (fun z1 ω1 => ?_)
  refine Eq.trans (rr_if_eq rfl rfl) (it_cg (fun _ => ?_) (fun _ => ?_))
  · refine Eq.trans (rr_iload_n rfl rfl) ?_
    refine Eq.trans (rr_iload_n rfl rfl) ?_
    refine Eq.trans (rr_icmp_ge rfl rfl) (it_cg (fun _ => ?_) (fun _ => ?_))
    · refine Eq.trans (rr_iconst rfl rfl) ?_
      exact rr_ireturn rfl rfl
    · refine Eq.trans (rr_iload_n rfl rfl) ?_
      refine Eq.trans (rr_iconst rfl rfl) ?_
      refine Eq.trans (rr_icmp_lt rfl rfl) (it_cg (fun _ => ?_) (fun _ => ?_))
      · refine Eq.trans (rr_iconst rfl rfl) ?_
        refine Eq.trans (rr_istore_n (L' := [some (.inr (.inr l0)), some (.inl l1), some (.inl l2), some (.inl 0)]) rfl rfl) ?_
        rfl
      · refine Eq.trans (rr_iconst rfl rfl) ?_
        exact rr_ireturn rfl rfl
  · refine Eq.trans (rr_iconst rfl rfl) ?_
    exact rr_ireturn rfl rfl
theorem pX0_catches_34 (lv : Nat) (l0 l1 l2 l3 : Int) (ω : am_W) (h1 : am_is ω l0 (0, 3) = true) : am_run (2, lv + 1) 34 ([some (.inr (.inr l0)), some (.inl l1), some (.inl l2), some (.inl l3)], [], ω) = if 2 < l3 then (some (some (.inl 0), ω)) else (if am_ina ω (am_get ω l0.toNat 1) (am_w (l1 + 1)) = true then (if am_ina ω (am_get ω l0.toNat 1) l1 = true then (if am_is ω (am_get ω (am_get ω l0.toNat 1).toNat (am_w (l1 + 1)).toNat) (4, 5) = true then (am_bv (am_run (47, 0) 0 ([some (.inr (.inr (am_get ω (am_get ω l0.toNat 1).toNat (am_w (l1 + 1)).toNat))), some (.inr (.inr (am_get ω (am_get ω l0.toNat 1).toNat l1.toNat)))], [], ω)) (fun ω1 => if am_is ω1 l0 (0, 3) = true then (if am_ina ω1 (am_get ω1 l0.toNat 1) (am_w (l1 + 1)) = true then (if am_is ω1 (am_get ω1 l0.toNat 0) (5, 8) = true then (am_bi (am_run (76, 0) 0 ([some (.inr (.inr (am_get ω1 l0.toNat 0))), some (.inr (.inr (am_get ω1 (am_get ω1 l0.toNat 1).toNat (am_w (l1 + 1)).toNat))), some (.inr (.inl l3)), none, none], [], ω1)) (fun z2 ω2 => if z2 = 0 then (am_run (2, lv + 1) 34 ([some (.inr (.inr l0)), some (.inl l1), some (.inl l2), some (.inl (am_w (l3 + 1)))], [], ω2)) else (if am_is ω2 l0 (0, 3) = true then (am_bi (am_run (3, lv) 0 ([some (.inr (.inr l0)), some (.inl l1), some (.inl l2), none], [], ω2)) (fun z3 ω3 => if z3 = 0 then (am_run (2, lv + 1) 34 ([some (.inr (.inr l0)), some (.inl l1), some (.inl l2), some (.inl (am_w (l3 + 1)))], [], ω3)) else (some (some (.inl 1), ω3)))) else none))) else none) else none) else none)) else none) else none) else none) := by
  refine Eq.trans (rr_iload_n rfl rfl) ?_
  refine Eq.trans (rr_iconst rfl rfl) ?_
  refine Eq.trans (rr_icmp_gt rfl rfl) (it_cg (fun _ => ?_) (fun _ => ?_))
  · refine Eq.trans (rr_iconst rfl rfl) ?_
    exact rr_ireturn rfl rfl
  · refine Eq.trans (rr_aload_n rfl rfl) ?_
    refine Eq.trans (rr_getfr rfl rfl rfl h1) ?_
    refine Eq.trans (rr_iload_n rfl rfl) ?_
    refine Eq.trans (rr_iconst rfl rfl) ?_
    refine Eq.trans (rr_iadd rfl) ?_
    refine ck_it (fun h => rr_aaload rfl h) (fun h => rr_aaload_no rfl h) (fun h2 => ?_)
    refine Eq.trans (rr_aload_n rfl rfl) ?_
    refine Eq.trans (rr_getfr rfl rfl rfl h1) ?_
    refine Eq.trans (rr_iload_n rfl rfl) ?_
    refine ck_it (fun h => rr_aaload rfl h) (fun h => rr_aaload_no rfl h) (fun h3 => ?_)
    refine ck_it (fun h => rr_invV0v (S' := []) (L' := [some (.inr (.inr (am_get ω (am_get ω l0.toNat 1).toNat (am_w (l1 + 1)).toNat))), some (.inr (.inr (am_get ω (am_get ω l0.toNat 1).toNat l1.toNat)))]) (m' := (47, 0)) rfl rfl rfl rfl (by rw [Bool.and_eq_true]; exact ⟨Nat.ble_eq_true_of_le (show (0 + 0) + 1 ≤ 4 + (lv + 1) by omega), rfl⟩) rfl h) (fun h => rr_invV0_no (S' := []) (L' := [some (.inr (.inr (am_get ω (am_get ω l0.toNat 1).toNat (am_w (l1 + 1)).toNat))), some (.inr (.inr (am_get ω (am_get ω l0.toNat 1).toNat l1.toNat)))]) (m' := (47, 0)) rfl rfl rfl rfl (by rw [Bool.and_eq_true]; exact ⟨Nat.ble_eq_true_of_le (show (0 + 0) + 1 ≤ 4 + (lv + 1) by omega), rfl⟩) rfl h) (fun h4 => ?_)
    refine bv_cg (fun ω1 => ?_)
    refine Eq.trans (rr_aload_n rfl rfl) ?_
    refine ck_it (fun h => rr_getfr rfl rfl rfl h) (fun h => rr_getfield_no rfl rfl h) (fun h5 => ?_)
    refine Eq.trans (rr_aload_n rfl rfl) ?_
    refine Eq.trans (rr_getfr rfl rfl rfl h5) ?_
    refine Eq.trans (rr_iload_n rfl rfl) ?_
    refine Eq.trans (rr_iconst rfl rfl) ?_
    refine Eq.trans (rr_iadd rfl) ?_
    refine ck_it (fun h => rr_aaload rfl h) (fun h => rr_aaload_no rfl h) (fun h6 => ?_)
    refine Eq.trans (rr_iload_n rfl rfl) ?_
    refine Eq.trans (rr_i2l rfl) ?_
    refine ck_it (fun h => rr_invV0i (S' := []) (L' := [some (.inr (.inr (am_get ω1 l0.toNat 0))), some (.inr (.inr (am_get ω1 (am_get ω1 l0.toNat 1).toNat (am_w (l1 + 1)).toNat))), some (.inr (.inl l3)), none, none]) (m' := (76, 0)) rfl rfl rfl rfl (by rw [Bool.and_eq_true]; exact ⟨Nat.ble_eq_true_of_le (show (3 + 0) + 1 ≤ 4 + (lv + 1) by omega), rfl⟩) rfl h) (fun h => rr_invV0_no (S' := []) (L' := [some (.inr (.inr (am_get ω1 l0.toNat 0))), some (.inr (.inr (am_get ω1 (am_get ω1 l0.toNat 1).toNat (am_w (l1 + 1)).toNat))), some (.inr (.inl l3)), none, none]) (m' := (76, 0)) rfl rfl rfl rfl (by rw [Bool.and_eq_true]; exact ⟨Nat.ble_eq_true_of_le (show (3 + 0) + 1 ≤ 4 + (lv + 1) by omega), rfl⟩) rfl h) (fun h7 => ?_)
    refine bi_cg (fun z2 ω2 => ?_)
    refine Eq.trans (rr_if_eq rfl rfl) (it_cg (fun _ => ?_) (fun _ => ?_))
    · refine Eq.trans (rr_iinc (L' := [some (.inr (.inr l0)), some (.inl l1), some (.inl l2), some (.inl (am_w (l3 + 1)))]) rfl rfl rfl) ?_
      refine Eq.trans (rr_goto rfl rfl) ?_
      rfl
    · refine Eq.trans (rr_aload_n rfl rfl) ?_
      refine Eq.trans (rr_iload_n rfl rfl) ?_
      refine Eq.trans (rr_iload_n rfl rfl) ?_
      refine ck_it (fun h => rr_invV0i (S' := []) (L' := [some (.inr (.inr l0)), some (.inl l1), some (.inl l2), none]) (m' := (3, lv)) rfl rfl rfl rfl (by rw [Bool.and_eq_true]; exact ⟨Nat.ble_eq_true_of_le (show (4 + lv) + 1 ≤ 4 + (lv + 1) by omega), rfl⟩) rfl h) (fun h => rr_invV0_no (S' := []) (L' := [some (.inr (.inr l0)), some (.inl l1), some (.inl l2), none]) (m' := (3, lv)) rfl rfl rfl rfl (by rw [Bool.and_eq_true]; exact ⟨Nat.ble_eq_true_of_le (show (4 + lv) + 1 ≤ 4 + (lv + 1) by omega), rfl⟩) rfl h) (fun h8 => ?_)
      refine bi_cg (fun z3 ω3 => ?_)
      refine Eq.trans (rr_if_eq rfl rfl) (it_cg (fun _ => ?_) (fun _ => ?_))
      · refine Eq.trans (rr_iinc (L' := [some (.inr (.inr l0)), some (.inl l1), some (.inl l2), some (.inl (am_w (l3 + 1)))]) rfl rfl rfl) ?_
        refine Eq.trans (rr_goto rfl rfl) ?_
        rfl
      · refine Eq.trans (rr_iconst rfl rfl) ?_
        exact rr_ireturn rfl rfl
theorem pX0_catchesAll_0 (lv : Nat) (l0 l1 l2 : Int) (ω : am_W) : am_run (3, lv + 1) 0 ([some (.inr (.inr l0)), some (.inl l1), some (.inl l2), none], [], ω) = am_run (3, lv + 1) 2 ([some (.inr (.inr l0)), some (.inl l1), some (.inl l2), some (.inl 0)], [], ω) := by
  refine Eq.trans (rr_iconst rfl rfl) ?_
  refine Eq.trans (rr_istore_n (L' := [some (.inr (.inr l0)), some (.inl l1), some (.inl l2), some (.inl 0)]) rfl rfl) ?_
  rfl
theorem pX0_catchesAll_2 (lv : Nat) (l0 l1 l2 l3 : Int) (ω : am_W) (h1 : am_is ω l0 (0, 3) = true) : am_run (3, lv + 1) 2 ([some (.inr (.inr l0)), some (.inl l1), some (.inl l2), some (.inl l3)], [], ω) = if 2 < l3 then (some (some (.inl 1), ω)) else (if am_ina ω (am_get ω l0.toNat 2) (am_w (l1 + 1)) = true then (if am_ina ω (am_get ω l0.toNat 2) l1 = true then (if am_is ω (am_get ω (am_get ω l0.toNat 2).toNat (am_w (l1 + 1)).toNat) (4, 5) = true then (am_bv (am_run (47, 0) 0 ([some (.inr (.inr (am_get ω (am_get ω l0.toNat 2).toNat (am_w (l1 + 1)).toNat))), some (.inr (.inr (am_get ω (am_get ω l0.toNat 2).toNat l1.toNat)))], [], ω)) (fun ω1 => if am_is ω1 l0 (0, 3) = true then (if am_ina ω1 (am_get ω1 l0.toNat 2) (am_w (l1 + 1)) = true then (if am_is ω1 (am_get ω1 l0.toNat 0) (5, 8) = true then (am_bi (am_run (76, 0) 0 ([some (.inr (.inr (am_get ω1 l0.toNat 0))), some (.inr (.inr (am_get ω1 (am_get ω1 l0.toNat 2).toNat (am_w (l1 + 1)).toNat))), some (.inr (.inl l3)), none, none], [], ω1)) (fun z2 ω2 => if z2 = 0 then (am_run (3, lv + 1) 2 ([some (.inr (.inr l0)), some (.inl l1), some (.inl l2), some (.inl (am_w (l3 + 1)))], [], ω2)) else (if am_is ω2 l0 (0, 3) = true then (am_bi (am_run (2, lv) 0 ([some (.inr (.inr l0)), some (.inl (am_w (l1 + 1))), some (.inl l2), none], [], ω2)) (fun z3 ω3 => if ¬ z3 = 0 then (am_run (3, lv + 1) 2 ([some (.inr (.inr l0)), some (.inl l1), some (.inl l2), some (.inl (am_w (l3 + 1)))], [], ω3)) else (some (some (.inl 0), ω3)))) else none))) else none) else none) else none)) else none) else none) else none) := by
  refine Eq.trans (rr_iload_n rfl rfl) ?_
  refine Eq.trans (rr_iconst rfl rfl) ?_
  refine Eq.trans (rr_icmp_gt rfl rfl) (it_cg (fun _ => ?_) (fun _ => ?_))
  · refine Eq.trans (rr_iconst rfl rfl) ?_
    exact rr_ireturn rfl rfl
  · refine Eq.trans (rr_aload_n rfl rfl) ?_
    refine Eq.trans (rr_getfr rfl rfl rfl h1) ?_
    refine Eq.trans (rr_iload_n rfl rfl) ?_
    refine Eq.trans (rr_iconst rfl rfl) ?_
    refine Eq.trans (rr_iadd rfl) ?_
    refine ck_it (fun h => rr_aaload rfl h) (fun h => rr_aaload_no rfl h) (fun h2 => ?_)
    refine Eq.trans (rr_aload_n rfl rfl) ?_
    refine Eq.trans (rr_getfr rfl rfl rfl h1) ?_
    refine Eq.trans (rr_iload_n rfl rfl) ?_
    refine ck_it (fun h => rr_aaload rfl h) (fun h => rr_aaload_no rfl h) (fun h3 => ?_)
    refine ck_it (fun h => rr_invV0v (S' := []) (L' := [some (.inr (.inr (am_get ω (am_get ω l0.toNat 2).toNat (am_w (l1 + 1)).toNat))), some (.inr (.inr (am_get ω (am_get ω l0.toNat 2).toNat l1.toNat)))]) (m' := (47, 0)) rfl rfl rfl rfl (by rw [Bool.and_eq_true]; exact ⟨Nat.ble_eq_true_of_le (show (0 + 0) + 1 ≤ 4 + (lv + 1) by omega), rfl⟩) rfl h) (fun h => rr_invV0_no (S' := []) (L' := [some (.inr (.inr (am_get ω (am_get ω l0.toNat 2).toNat (am_w (l1 + 1)).toNat))), some (.inr (.inr (am_get ω (am_get ω l0.toNat 2).toNat l1.toNat)))]) (m' := (47, 0)) rfl rfl rfl rfl (by rw [Bool.and_eq_true]; exact ⟨Nat.ble_eq_true_of_le (show (0 + 0) + 1 ≤ 4 + (lv + 1) by omega), rfl⟩) rfl h) (fun h4 => ?_)
    refine bv_cg (fun ω1 => ?_)
    refine Eq.trans (rr_aload_n rfl rfl) ?_
    refine ck_it (fun h => rr_getfr rfl rfl rfl h) (fun h => rr_getfield_no rfl rfl h) (fun h5 => ?_)
    refine Eq.trans (rr_aload_n rfl rfl) ?_
    refine Eq.trans (rr_getfr rfl rfl rfl h5) ?_
    refine Eq.trans (rr_iload_n rfl rfl) ?_
    refine Eq.trans (rr_iconst rfl rfl) ?_
    refine Eq.trans (rr_iadd rfl) ?_
    refine ck_it (fun h => rr_aaload rfl h) (fun h => rr_aaload_no rfl h) (fun h6 => ?_)
    refine Eq.trans (rr_iload_n rfl rfl) ?_
    refine Eq.trans (rr_i2l rfl) ?_
    refine ck_it (fun h => rr_invV0i (S' := []) (L' := [some (.inr (.inr (am_get ω1 l0.toNat 0))), some (.inr (.inr (am_get ω1 (am_get ω1 l0.toNat 2).toNat (am_w (l1 + 1)).toNat))), some (.inr (.inl l3)), none, none]) (m' := (76, 0)) rfl rfl rfl rfl (by rw [Bool.and_eq_true]; exact ⟨Nat.ble_eq_true_of_le (show (3 + 0) + 1 ≤ 4 + (lv + 1) by omega), rfl⟩) rfl h) (fun h => rr_invV0_no (S' := []) (L' := [some (.inr (.inr (am_get ω1 l0.toNat 0))), some (.inr (.inr (am_get ω1 (am_get ω1 l0.toNat 2).toNat (am_w (l1 + 1)).toNat))), some (.inr (.inl l3)), none, none]) (m' := (76, 0)) rfl rfl rfl rfl (by rw [Bool.and_eq_true]; exact ⟨Nat.ble_eq_true_of_le (show (3 + 0) + 1 ≤ 4 + (lv + 1) by omega), rfl⟩) rfl h) (fun h7 => ?_)
    refine bi_cg (fun z2 ω2 => ?_)
    refine Eq.trans (rr_if_eq rfl rfl) (it_cg (fun _ => ?_) (fun _ => ?_))
    · refine Eq.trans (rr_iinc (L' := [some (.inr (.inr l0)), some (.inl l1), some (.inl l2), some (.inl (am_w (l3 + 1)))]) rfl rfl rfl) ?_
      refine Eq.trans (rr_goto rfl rfl) ?_
      rfl
    · refine Eq.trans (rr_aload_n rfl rfl) ?_
      refine Eq.trans (rr_iload_n rfl rfl) ?_
      refine Eq.trans (rr_iconst rfl rfl) ?_
      refine Eq.trans (rr_iadd rfl) ?_
      refine Eq.trans (rr_iload_n rfl rfl) ?_
      refine ck_it (fun h => rr_invV0i (S' := []) (L' := [some (.inr (.inr l0)), some (.inl (am_w (l1 + 1))), some (.inl l2), none]) (m' := (2, lv)) rfl rfl rfl rfl (by rw [Bool.and_eq_true]; exact ⟨Nat.ble_eq_true_of_le (show (4 + lv) + 1 ≤ 4 + (lv + 1) by omega), rfl⟩) rfl h) (fun h => rr_invV0_no (S' := []) (L' := [some (.inr (.inr l0)), some (.inl (am_w (l1 + 1))), some (.inl l2), none]) (m' := (2, lv)) rfl rfl rfl rfl (by rw [Bool.and_eq_true]; exact ⟨Nat.ble_eq_true_of_le (show (4 + lv) + 1 ≤ 4 + (lv + 1) by omega), rfl⟩) rfl h) (fun h8 => ?_)
      refine bi_cg (fun z3 ω3 => ?_)
      refine Eq.trans (rr_if_ne rfl rfl) (it_cg (fun _ => ?_) (fun _ => ?_))
      · refine Eq.trans (rr_iinc (L' := [some (.inr (.inr l0)), some (.inl l1), some (.inl l2), some (.inl (am_w (l3 + 1)))]) rfl rfl rfl) ?_
        refine Eq.trans (rr_goto rfl rfl) ?_
        rfl
      · refine Eq.trans (rr_iconst rfl rfl) ?_
        exact rr_ireturn rfl rfl
theorem pX2_init_0 (l0 : Int) (ω : am_W) (h1 : 0 ≤ l0) (h2 : am_is ω l0 (2, 3) = true) : am_run (22, 0) 0 ([some (.inr (.inr l0))], [], ω) = if am_is (am_new (am_put ω l0.toNat 0 ((-1))) (101, 40) (fun _ => 0)) l0 (2, 3) = true then (some (none, am_put (am_new (am_put ω l0.toNat 0 ((-1))) (101, 40) (fun _ => 0)) l0.toNat 2 (((am_put ω l0.toNat 0 ((-1))).1.length : Int)))) else none := by
  refine Eq.trans (rr_aload_n rfl rfl) ?_
  refine Eq.trans (rr_objInit rfl rfl rfl (decide_eq_true h1) rfl) ?_
  refine Eq.trans (rr_aload_n rfl rfl) ?_
  refine Eq.trans (rr_iconst rfl rfl) ?_
  refine Eq.trans (rr_putfieldi rfl rfl rfl h2) ?_
  refine Eq.trans (rr_aload_n rfl rfl) ?_
  refine Eq.trans (rr_bipush rfl rfl) ?_
  refine Eq.trans (rr_newarrayL rfl rfl) ?_
  refine ck_it (fun h => rr_putfieldr rfl rfl (by rw [Bool.and_eq_true, Bool.and_eq_true]; exact ⟨rfl, rfl, decide_eq_true (by omega)⟩) h) (fun h => rr_putfieldr_no rfl rfl h) (fun h3 => ?_)
  exact rr_return rfl rfl
theorem pX2_isEmpty_0 (l0 : Int) (ω : am_W) (h1 : am_is ω l0 (2, 3) = true) : am_run (23, 0) 0 ([some (.inr (.inr l0))], [], ω) = if ¬ (am_get ω l0.toNat 0) = ((-1)) then (some (some (.inl 0), ω)) else (some (some (.inl 1), ω)) := by
  refine Eq.trans (rr_aload_n rfl rfl) ?_
  refine Eq.trans (rr_getfi rfl rfl rfl h1) ?_
  refine Eq.trans (rr_iconst rfl rfl) ?_
  refine Eq.trans (rr_icmp_ne rfl rfl) (it_cg (fun _ => ?_) (fun _ => ?_))
  · refine Eq.trans (rr_iconst rfl rfl) ?_
    exact rr_ireturn rfl rfl
  · refine Eq.trans (rr_iconst rfl rfl) ?_
    refine Eq.trans (rr_goto rfl rfl) ?_
    exact rr_ireturn rfl rfl
theorem pX2_isShip_0 (l0 : Int) (ω : am_W) (h1 : am_is ω l0 (2, 3) = true) : am_run (24, 0) 0 ([some (.inr (.inr l0))], [], ω) = if (am_get ω l0.toNat 0) < 10 then (some (some (.inl 0), ω)) else (some (some (.inl 1), ω)) := by
  refine Eq.trans (rr_aload_n rfl rfl) ?_
  refine Eq.trans (rr_getfi rfl rfl rfl h1) ?_
  refine Eq.trans (rr_bipush rfl rfl) ?_
  refine Eq.trans (rr_icmp_lt rfl rfl) (it_cg (fun _ => ?_) (fun _ => ?_))
  · refine Eq.trans (rr_iconst rfl rfl) ?_
    exact rr_ireturn rfl rfl
  · refine Eq.trans (rr_iconst rfl rfl) ?_
    refine Eq.trans (rr_goto rfl rfl) ?_
    exact rr_ireturn rfl rfl
theorem pX2_isRow_0 (l0 : Int) (ω : am_W) (h1 : am_is ω l0 (2, 3) = true) : am_run (25, 0) 0 ([some (.inr (.inr l0))], [], ω) = if (am_get ω l0.toNat 0) < 0 then (some (some (.inl 0), ω)) else (if 5 ≤ (am_get ω l0.toNat 0) then (some (some (.inl 0), ω)) else (some (some (.inl 1), ω))) := by
  refine Eq.trans (rr_aload_n rfl rfl) ?_
  refine Eq.trans (rr_getfi rfl rfl rfl h1) ?_
  refine Eq.trans (rr_if_lt rfl rfl) (it_cg (fun _ => ?_) (fun _ => ?_))
  · refine Eq.trans (rr_iconst rfl rfl) ?_
    exact rr_ireturn rfl rfl
  · refine Eq.trans (rr_aload_n rfl rfl) ?_
    refine Eq.trans (rr_getfi rfl rfl rfl h1) ?_
    refine Eq.trans (rr_iconst rfl rfl) ?_
    refine Eq.trans (rr_icmp_ge rfl rfl) (it_cg (fun _ => ?_) (fun _ => ?_))
    · refine Eq.trans (rr_iconst rfl rfl) ?_
      exact rr_ireturn rfl rfl
    · refine Eq.trans (rr_iconst rfl rfl) ?_
      refine Eq.trans (rr_goto rfl rfl) ?_
      exact rr_ireturn rfl rfl
theorem pX2_shipNumber_0 (l0 : Int) (ω : am_W) (h1 : am_is ω l0 (2, 3) = true) : am_run (26, 0) 0 ([some (.inr (.inr l0))], [], ω) = am_bi (am_run (24, 0) 0 ([some (.inr (.inr l0))], [], ω)) (fun z1 ω1 => if z1 = 0 then (some (some (.inl ((-1))), ω1)) else (if am_is ω1 l0 (2, 3) = true then (some (some (.inl (am_w ((am_get ω1 l0.toNat 0) - 10))), ω1)) else none)) := by
  refine Eq.trans (rr_aload_n rfl rfl) ?_
  refine Eq.trans (rr_invV0i (S' := []) (L' := [some (.inr (.inr l0))]) (m' := (24, 0)) rfl rfl rfl rfl rfl rfl h1) ?_
  refine bi_cg (fun z1 ω1 => ?_)
  refine Eq.trans (rr_if_eq rfl rfl) (it_cg (fun _ => ?_) (fun _ => ?_))
  · refine Eq.trans (rr_iconst rfl rfl) ?_
    exact rr_ireturn rfl rfl
  · refine Eq.trans (rr_aload_n rfl rfl) ?_
    refine ck_it (fun h => rr_getfi rfl rfl rfl h) (fun h => rr_getfield_no rfl rfl h) (fun h2 => ?_)
    refine Eq.trans (rr_bipush rfl rfl) ?_
    refine Eq.trans (rr_isub rfl) ?_
    refine Eq.trans (rr_goto rfl rfl) ?_
    exact rr_ireturn rfl rfl
theorem pX2_beEmpty_0 (l0 : Int) (ω : am_W) (h1 : am_is ω l0 (2, 3) = true) : am_run (27, 0) 0 ([some (.inr (.inr l0))], [], ω) = some (none, am_put (am_put ω l0.toNat 0 ((-1))) l0.toNat 1 0) := by
  refine Eq.trans (rr_aload_n rfl rfl) ?_
  refine Eq.trans (rr_iconst rfl rfl) ?_
  refine Eq.trans (rr_putfieldi rfl rfl rfl h1) ?_
  refine Eq.trans (rr_aload_n rfl rfl) ?_
  refine Eq.trans (rr_iconst rfl rfl) ?_
  refine Eq.trans (rr_putfieldi rfl rfl rfl h1) ?_
  exact rr_return rfl rfl
theorem pX2_beShip_0 (l0 l1 : Int) (ω : am_W) (h1 : am_is ω l0 (2, 3) = true) : am_run (28, 0) 0 ([some (.inr (.inr l0)), some (.inl l1)], [], ω) = some (none, am_put (am_put ω l0.toNat 0 (am_w (10 + l1))) l0.toNat 1 0) := by
  refine Eq.trans (rr_aload_n rfl rfl) ?_
  refine Eq.trans (rr_bipush rfl rfl) ?_
  refine Eq.trans (rr_iload_n rfl rfl) ?_
  refine Eq.trans (rr_iadd rfl) ?_
  refine Eq.trans (rr_putfieldi rfl rfl rfl h1) ?_
  refine Eq.trans (rr_aload_n rfl rfl) ?_
  refine Eq.trans (rr_iconst rfl rfl) ?_
  refine Eq.trans (rr_putfieldi rfl rfl rfl h1) ?_
  exact rr_return rfl rfl
theorem pX2_beRow_0 (l0 l1 l2 : Int) (ω : am_W) (h1 : am_is ω l0 (2, 3) = true) : am_run (29, 0) 0 ([some (.inr (.inr l0)), some (.inl l1), some (.inl l2)], [], ω) = am_bv (am_run (238, 0) 0 ([some (.inr (.inr (am_get (am_put (am_put ω l0.toNat 0 l1) l0.toNat 1 l2) l0.toNat 2))), some (.inr (.inl 0)), none, none, none], [], am_put (am_put ω l0.toNat 0 l1) l0.toNat 1 l2)) (fun ω1 => some (none, ω1)) := by
  refine Eq.trans (rr_aload_n rfl rfl) ?_
  refine Eq.trans (rr_iload_n rfl rfl) ?_
  refine Eq.trans (rr_putfieldi rfl rfl rfl h1) ?_
  refine Eq.trans (rr_aload_n rfl rfl) ?_
  refine Eq.trans (rr_iload_n rfl rfl) ?_
  refine Eq.trans (rr_putfieldi rfl rfl rfl h1) ?_
  refine Eq.trans (rr_aload_n rfl rfl) ?_
  refine Eq.trans (rr_getfr rfl rfl rfl h1) ?_
  refine Eq.trans (rr_lconst rfl) ?_
  refine Eq.trans (rr_invS2v (S' := []) (L' := [some (.inr (.inr (am_get (am_put (am_put ω l0.toNat 0 l1) l0.toNat 1 l2) l0.toNat 2))), some (.inr (.inl 0)), none, none, none]) (m' := (238, 0)) rfl rfl rfl rfl rfl rfl) ?_
  refine bv_cg (fun ω1 => ?_)
  exact rr_return rfl rfl
theorem pX2_hasPart_0 (l0 l1 l2 : Int) (ω : am_W) (h1 : am_is ω l0 (2, 3) = true) : am_run (30, 0) 0 ([some (.inr (.inr l0)), some (.inl l1), some (.inl l2)], [], ω) = if l1 < 0 then (some (some (.inl 0), ω)) else (if l2 < 0 then (some (some (.inl 0), ω)) else (if (am_get ω l0.toNat 1) < l1 then (some (some (.inl 0), ω)) else (if (am_w ((am_get ω l0.toNat 1) - l1)) < l2 then (some (some (.inl 0), ω)) else (some (some (.inl 1), ω))))) := by
  refine Eq.trans (rr_iload_n rfl rfl) ?_
  refine Eq.trans (rr_if_lt rfl rfl) (it_cg (fun _ => ?_) (fun _ => ?_))
  · refine Eq.trans (rr_iconst rfl rfl) ?_
    exact rr_ireturn rfl rfl
  · refine Eq.trans (rr_iload_n rfl rfl) ?_
    refine Eq.trans (rr_if_lt rfl rfl) (it_cg (fun _ => ?_) (fun _ => ?_))
    · refine Eq.trans (rr_iconst rfl rfl) ?_
      exact rr_ireturn rfl rfl
    · refine Eq.trans (rr_iload_n rfl rfl) ?_
      refine Eq.trans (rr_aload_n rfl rfl) ?_
      refine Eq.trans (rr_getfi rfl rfl rfl h1) ?_
      refine Eq.trans (rr_icmp_gt rfl rfl) (it_cg (fun _ => ?_) (fun _ => ?_))
      · refine Eq.trans (rr_iconst rfl rfl) ?_
        exact rr_ireturn rfl rfl
      · refine Eq.trans (rr_iload_n rfl rfl) ?_
        refine Eq.trans (rr_aload_n rfl rfl) ?_
        refine Eq.trans (rr_getfi rfl rfl rfl h1) ?_
        refine Eq.trans (rr_iload_n rfl rfl) ?_
        refine Eq.trans (rr_isub rfl) ?_
        refine Eq.trans (rr_icmp_gt rfl rfl) (it_cg (fun _ => ?_) (fun _ => ?_))
        · refine Eq.trans (rr_iconst rfl rfl) ?_
          exact rr_ireturn rfl rfl
        · refine Eq.trans (rr_iconst rfl rfl) ?_
          refine Eq.trans (rr_goto rfl rfl) ?_
          exact rr_ireturn rfl rfl
theorem pX2_put_0 (l0 l1 l2 : Int) (ω : am_W) (h1 : am_is ω l0 (2, 3) = true) : am_run (31, 0) 0 ([some (.inr (.inr l0)), some (.inl l1), some (.inr (.inl l2)), none], [], ω) = am_bl (am_run (32, 0) 0 ([some (.inr (.inr l0)), some (.inr (.inl l2)), none], [], ω)) (fun z1 ω1 => if am_in ω1 (am_get ω l0.toNat 2) 101 l1 = true then (some (none, am_put ω1 (am_get ω l0.toNat 2).toNat l1.toNat z1)) else none) := by
  refine Eq.trans (rr_aload_n rfl rfl) ?_
  refine Eq.trans (rr_getfr rfl rfl rfl h1) ?_
  refine Eq.trans (rr_iload_n rfl rfl) ?_
  refine Eq.trans (rr_aload_n rfl rfl) ?_
  refine Eq.trans (rr_lload_n rfl rfl) ?_
  refine Eq.trans (rr_invV0l (S' := [.inl l1, .inr (.inr (am_get ω l0.toNat 2))]) (L' := [some (.inr (.inr l0)), some (.inr (.inl l2)), none]) (m' := (32, 0)) rfl rfl rfl rfl rfl rfl h1) ?_
  refine bl_cg (fun z1 ω1 => ?_)
  refine ck_it (fun h => rr_lastore rfl h) (fun h => rr_lastore_no rfl h) (fun h2 => ?_)
  exact rr_return rfl rfl
theorem pX2_narrowed_0 (l0 l1 : Int) (ω : am_W) (h1 : am_is ω l0 (2, 3) = true) : am_run (32, 0) 0 ([some (.inr (.inr l0)), some (.inr (.inl l1)), none], [], ω) = if (am_get ω l0.toNat 0) = 0 then (some (some (.inr (.inl ((am_w l1).bmod 256))), ω)) else if (am_get ω l0.toNat 0) = 1 then (some (some (.inr (.inl ((am_w l1).bmod 65536))), ω)) else if (am_get ω l0.toNat 0) = 2 then (some (some (.inr (.inl (am_w l1))), ω)) else if (am_get ω l0.toNat 0) = 3 then (some (some (.inr (.inl l1)), ω)) else if (am_get ω l0.toNat 0) = 4 then (if (am_cmp l1 0) = 0 then (some (some (.inr (.inl 0)), ω)) else (some (some (.inr (.inl 1)), ω))) else (some (some (.inr (.inl l1)), ω)) := by
  refine Eq.trans (rr_aload_n rfl rfl) ?_
  refine Eq.trans (rr_getfi rfl rfl rfl h1) ?_
  refine sw_it (fun q2 => Eq.trans (rr_tsw rfl (by rw [q2]; rfl) rfl) ?_) (fun q2 => ?_)
  · refine Eq.trans (rr_lload_n rfl rfl) ?_
    refine Eq.trans (rr_l2i rfl) ?_
    refine Eq.trans (rr_i2b rfl) ?_
    refine Eq.trans (rr_i2l rfl) ?_
    exact rr_lreturn rfl rfl
  refine sw_it (fun q3 => Eq.trans (rr_tsw rfl (by rw [q3]; rfl) rfl) ?_) (fun q3 => ?_)
  · refine Eq.trans (rr_lload_n rfl rfl) ?_
    refine Eq.trans (rr_l2i rfl) ?_
    refine Eq.trans (rr_i2s rfl) ?_
    refine Eq.trans (rr_i2l rfl) ?_
    exact rr_lreturn rfl rfl
  refine sw_it (fun q4 => Eq.trans (rr_tsw rfl (by rw [q4]; rfl) rfl) ?_) (fun q4 => ?_)
  · refine Eq.trans (rr_lload_n rfl rfl) ?_
    refine Eq.trans (rr_l2i rfl) ?_
    refine Eq.trans (rr_i2l rfl) ?_
    exact rr_lreturn rfl rfl
  refine sw_it (fun q5 => Eq.trans (rr_tsw rfl (by rw [q5]; rfl) rfl) ?_) (fun q5 => ?_)
  · refine Eq.trans (rr_lload_n rfl rfl) ?_
    exact rr_lreturn rfl rfl
  refine sw_it (fun q6 => Eq.trans (rr_tsw rfl (by rw [q6]; rfl) rfl) ?_) (fun q6 => ?_)
  · refine Eq.trans (rr_lload_n rfl rfl) ?_
    refine Eq.trans (rr_lconst rfl) ?_
    refine Eq.trans (rr_lcmp rfl) ?_
    refine Eq.trans (rr_if_eq rfl rfl) (it_cg (fun _ => ?_) (fun _ => ?_))
    · refine Eq.trans (rr_lconst rfl) ?_
      exact rr_lreturn rfl rfl
    · refine Eq.trans (rr_lconst rfl) ?_
      refine Eq.trans (rr_goto rfl rfl) ?_
      exact rr_lreturn rfl rfl
  refine Eq.trans (rr_tsw rfl (am_tsw_out (by omega)) rfl) ?_
  refine Eq.trans (rr_lload_n rfl rfl) ?_
  exact rr_lreturn rfl rfl
theorem pX3_init_0 (l0 : Int) (ω : am_W) (h1 : 0 ≤ l0) : am_run (33, 0) 0 ([some (.inr (.inr l0))], [], ω) = if am_is (am_new ω (100, 250) (fun _ => 0)) l0 (3, 7) = true then (am_run (33, 0) 13 ([some (.inr (.inr l0))], [], am_put (am_new ω (100, 250) (fun _ => 0)) l0.toNat 0 (((ω).1.length : Int)))) else none := by
  refine Eq.trans (rr_aload_n rfl rfl) ?_
  refine Eq.trans (rr_objInit rfl rfl rfl (decide_eq_true h1) rfl) ?_
  refine Eq.trans (rr_aload_n rfl rfl) ?_
  refine Eq.trans (rr_sipush rfl rfl) ?_
  refine Eq.trans (rr_newarrayI rfl rfl) ?_
  refine ck_it (fun h => rr_putfieldr rfl rfl (by rw [Bool.and_eq_true, Bool.and_eq_true]; exact ⟨rfl, rfl, decide_eq_true (by omega)⟩) h) (fun h => rr_putfieldr_no rfl rfl h) (fun h2 => ?_)
  rfl
theorem pX3_init_13 (l0 : Int) (ω : am_W) : am_run (33, 0) 13 ([some (.inr (.inr l0))], [], ω) = if am_is (am_new ω (5, 8) (am_d0 5)) (((ω).1.length : Int)) (5, 8) = true then (am_bv (am_run (52, 0) 0 ([some (.inr (.inr (((ω).1.length : Int)))), none], [], am_new ω (5, 8) (am_d0 5))) (fun ω2 => if am_is ω2 l0 (3, 7) = true then (am_run (33, 0) 24 ([some (.inr (.inr l0))], [], am_put ω2 l0.toNat 2 (((ω).1.length : Int)))) else none)) else none := by
  refine Eq.trans (rr_aload_n rfl rfl) ?_
  refine Eq.trans (rr_new rfl rfl rfl) ?_
  refine Eq.trans (rr_dupr rfl) ?_
  refine ck_it (fun h => rr_invI4v (S' := [.inr (.inr (((ω).1.length : Int))), .inr (.inr l0)]) (L' := [some (.inr (.inr (((ω).1.length : Int)))), none]) (m' := (52, 0)) rfl rfl rfl rfl rfl rfl h) (fun h => rr_invI4_no (S' := [.inr (.inr (((ω).1.length : Int))), .inr (.inr l0)]) (L' := [some (.inr (.inr (((ω).1.length : Int)))), none]) (m' := (52, 0)) rfl rfl rfl rfl rfl rfl h) (fun h1 => ?_)
  refine bv_cg (fun ω2 => ?_)
  refine ck_it (fun h => rr_putfieldr rfl rfl (by rw [Bool.and_eq_true, Bool.and_eq_true]; exact ⟨rfl, rfl, decide_eq_true (by omega)⟩) h) (fun h => rr_putfieldr_no rfl rfl h) (fun h2 => ?_)
  rfl
theorem pX3_init_24 (l0 : Int) (ω : am_W) (h1 : am_is ω l0 (3, 7) = true) : am_run (33, 0) 24 ([some (.inr (.inr l0))], [], ω) = some (none, am_put ω l0.toNat 6 ((-1))) := by
  refine Eq.trans (rr_aload_n rfl rfl) ?_
  refine Eq.trans (rr_iconst rfl rfl) ?_
  refine Eq.trans (rr_putfieldi rfl rfl rfl h1) ?_
  exact rr_return rfl rfl
theorem pX3_read_0 (l0 l1 : Int) (ω : am_W) (h1 : am_is ω l0 (3, 7) = true) (h2 : am_is ω (am_get ω l0.toNat 2) (5, 8) = true) : am_run (34, 0) 0 ([some (.inr (.inr l0)), some (.inr (.inr l1)), none], [], ω) = am_bv (am_run (53, 0) 0 ([some (.inr (.inr (am_get ω l0.toNat 2))), some (.inr (.inr l1)), none], [], ω)) (fun ω1 => if am_is ω1 l0 (3, 7) = true then (am_bv (am_run (44, 0) 0 ([some (.inr (.inr l0)), none, none], [], am_put (am_put ω1 l0.toNat 6 ((-1))) l0.toNat 5 0)) (fun ω2 => am_run (34, 0) 24 ([some (.inr (.inr l0)), some (.inr (.inr l1)), some (.inl 0)], [], ω2))) else none) := by
  refine Eq.trans (rr_aload_n rfl rfl) ?_
  refine Eq.trans (rr_getfr rfl rfl rfl h1) ?_
  refine Eq.trans (rr_aload_n rfl rfl) ?_
  refine Eq.trans (rr_invV0v (S' := []) (L' := [some (.inr (.inr (am_get ω l0.toNat 2))), some (.inr (.inr l1)), none]) (m' := (53, 0)) rfl rfl rfl rfl rfl rfl h2) ?_
  refine bv_cg (fun ω1 => ?_)
  refine Eq.trans (rr_aload_n rfl rfl) ?_
  refine Eq.trans (rr_iconst rfl rfl) ?_
  refine ck_it (fun h => rr_putfieldi rfl rfl rfl h) (fun h => rr_putfieldi_no rfl rfl h) (fun h3 => ?_)
  refine Eq.trans (rr_aload_n rfl rfl) ?_
  refine Eq.trans (rr_iconst rfl rfl) ?_
  refine Eq.trans (rr_putfieldi rfl rfl rfl h3) ?_
  refine Eq.trans (rr_aload_n rfl rfl) ?_
  refine Eq.trans (rr_invV0v (S' := []) (L' := [some (.inr (.inr l0)), none, none]) (m' := (44, 0)) rfl rfl rfl rfl rfl rfl h3) ?_
  refine bv_cg (fun ω2 => ?_)
  refine Eq.trans (rr_iconst rfl rfl) ?_
  refine Eq.trans (rr_istore_n (L' := [some (.inr (.inr l0)), some (.inr (.inr l1)), some (.inl 0)]) rfl rfl) ?_
  rfl
theorem pX3_read_24 (l0 l1 l2 : Int) (ω : am_W) (h1 : am_is ω l0 (3, 7) = true) : am_run (34, 0) 24 ([some (.inr (.inr l0)), some (.inr (.inr l1)), some (.inl l2)], [], ω) = if (am_get ω l0.toNat 1) < l2 then (some (some (.inl l2), ω)) else (am_bv (am_run (35, 0) 0 ([some (.inr (.inr l0))], [], ω)) (fun ω1 => if am_is ω1 l0 (3, 7) = true then (if (am_get ω1 l0.toNat 6) = ((-1)) then (if ¬ (am_get ω1 l0.toNat 3) = 0 then (if (am_get ω1 l0.toNat 3) = 3 then (am_bv (am_run (44, 0) 0 ([some (.inr (.inr l0)), none, none], [], ω1)) (fun ω2 => am_run (34, 0) 24 ([some (.inr (.inr l0)), some (.inr (.inr l1)), some (.inl (am_w (l2 + 1)))], [], ω2))) else (some (some (.inl (am_w (l2 + 1))), am_put ω1 l0.toNat 6 (am_get ω1 l0.toNat 4)))) else (some (some (.inl (am_w (l2 + 1))), ω1))) else (some (some (.inl l2), ω1))) else none)) := by
  refine Eq.trans (rr_iload_n rfl rfl) ?_
  refine Eq.trans (rr_aload_n rfl rfl) ?_
  refine Eq.trans (rr_getfi rfl rfl rfl h1) ?_
  refine Eq.trans (rr_icmp_gt rfl rfl) (it_cg (fun _ => ?_) (fun _ => ?_))
  · refine Eq.trans (rr_iload_n rfl rfl) ?_
    exact rr_ireturn rfl rfl
  · refine Eq.trans (rr_aload_n rfl rfl) ?_
    refine Eq.trans (rr_invV0v (S' := []) (L' := [some (.inr (.inr l0))]) (m' := (35, 0)) rfl rfl rfl rfl rfl rfl h1) ?_
    refine bv_cg (fun ω1 => ?_)
    refine Eq.trans (rr_aload_n rfl rfl) ?_
    refine ck_it (fun h => rr_getfi rfl rfl rfl h) (fun h => rr_getfield_no rfl rfl h) (fun h2 => ?_)
    refine Eq.trans (rr_iconst rfl rfl) ?_
    refine Eq.trans (rr_icmp_eq rfl rfl) (it_cg (fun _ => ?_) (fun _ => ?_))
    · refine Eq.trans (rr_iinc (L' := [some (.inr (.inr l0)), some (.inr (.inr l1)), some (.inl (am_w (l2 + 1)))]) rfl rfl rfl) ?_
      refine Eq.trans (rr_aload_n rfl rfl) ?_
      refine Eq.trans (rr_getfi rfl rfl rfl h2) ?_
      refine Eq.trans (rr_if_ne rfl rfl) (it_cg (fun _ => ?_) (fun _ => ?_))
      · refine Eq.trans (rr_aload_n rfl rfl) ?_
        refine Eq.trans (rr_getfi rfl rfl rfl h2) ?_
        refine Eq.trans (rr_iconst rfl rfl) ?_
        refine Eq.trans (rr_icmp_eq rfl rfl) (it_cg (fun _ => ?_) (fun _ => ?_))
        · refine Eq.trans (rr_aload_n rfl rfl) ?_
          refine Eq.trans (rr_invV0v (S' := []) (L' := [some (.inr (.inr l0)), none, none]) (m' := (44, 0)) rfl rfl rfl rfl rfl rfl h2) ?_
          refine bv_cg (fun ω2 => ?_)
          refine Eq.trans (rr_goto rfl rfl) ?_
          rfl
        · refine Eq.trans (rr_aload_n rfl rfl) ?_
          refine Eq.trans (rr_aload_n rfl rfl) ?_
          refine Eq.trans (rr_getfi rfl rfl rfl h2) ?_
          refine Eq.trans (rr_putfieldi rfl rfl rfl h2) ?_
          refine Eq.trans (rr_iload_n rfl rfl) ?_
          exact rr_ireturn rfl rfl
      · refine Eq.trans (rr_iload_n rfl rfl) ?_
        exact rr_ireturn rfl rfl
    · refine Eq.trans (rr_iload_n rfl rfl) ?_
      exact rr_ireturn rfl rfl
theorem pX3_readStatement_0 (l0 : Int) (ω : am_W) (h1 : am_is ω l0 (3, 7) = true) : am_run (35, 0) 0 ([some (.inr (.inr l0))], [], ω) = am_bi (am_run (43, 0) 0 ([some (.inr (.inr l0)), some (.inr (.inr ((-3 - ((0 : Nat) : Int))))), none], [], ω)) (fun z1 ω1 => if z1 = 0 then (if am_is ω1 l0 (3, 7) = true then (am_bi (am_run (43, 0) 0 ([some (.inr (.inr l0)), some (.inr (.inr ((-3 - ((1 : Nat) : Int))))), none], [], ω1)) (fun z2 ω2 => if z2 = 0 then (if am_is ω2 l0 (3, 7) = true then (am_bi (am_run (43, 0) 0 ([some (.inr (.inr l0)), some (.inr (.inr ((-3 - ((2 : Nat) : Int))))), none], [], ω2)) (fun z3 ω3 => if z3 = 0 then (if am_is ω3 l0 (3, 7) = true then (am_bi (am_run (43, 0) 0 ([some (.inr (.inr l0)), some (.inr (.inr ((-3 - ((3 : Nat) : Int))))), none], [], ω3)) (fun z4 ω4 => if z4 = 0 then (if am_is ω4 l0 (3, 7) = true then (am_bi (am_run (43, 0) 0 ([some (.inr (.inr l0)), some (.inr (.inr ((-3 - ((5 : Nat) : Int))))), none], [], ω4)) (fun z5 ω5 => if z5 = 0 then (if am_is ω5 l0 (3, 7) = true then (some (none, am_put ω5 l0.toNat 6 (am_get ω5 l0.toNat 4))) else none) else (if am_is ω5 l0 (3, 7) = true then (am_bv (am_run (40, 0) 0 ([some (.inr (.inr l0)), none], [], ω5)) (fun ω6 => some (none, ω6))) else none))) else none) else (if am_is ω4 l0 (3, 7) = true then (am_bv (am_run (39, 0) 0 ([some (.inr (.inr l0)), none, none, none, none], [], ω4)) (fun ω7 => some (none, ω7))) else none))) else none) else (if am_is ω3 l0 (3, 7) = true then (am_bv (am_run (38, 0) 0 ([some (.inr (.inr l0)), none, none], [], ω3)) (fun ω8 => some (none, ω8))) else none))) else none) else (if am_is ω2 l0 (3, 7) = true then (am_bv (am_run (37, 0) 0 ([some (.inr (.inr l0)), none, none, none], [], ω2)) (fun ω9 => some (none, ω9))) else none))) else none) else (if am_is ω1 l0 (3, 7) = true then (am_bv (am_run (36, 0) 0 ([some (.inr (.inr l0)), none], [], ω1)) (fun ω10 => some (none, ω10))) else none)) := by
  refine Eq.trans (rr_aload_n rfl rfl) ?_
  refine Eq.trans (rr_ldcS rfl rfl rfl) ?_
  refine Eq.trans (rr_invV0i (S' := []) (L' := [some (.inr (.inr l0)), some (.inr (.inr ((-3 - ((0 : Nat) : Int))))), none]) (m' := (43, 0)) rfl rfl rfl rfl rfl rfl h1) ?_
  refine bi_cg (fun z1 ω1 => ?_)
  refine Eq.trans (rr_if_eq rfl rfl) (it_cg (fun _ => ?_) (fun _ => ?_))
  · refine Eq.trans (rr_aload_n rfl rfl) ?_
    refine Eq.trans (rr_ldcS rfl rfl rfl) ?_
    refine ck_it (fun h => rr_invV0i (S' := []) (L' := [some (.inr (.inr l0)), some (.inr (.inr ((-3 - ((1 : Nat) : Int))))), none]) (m' := (43, 0)) rfl rfl rfl rfl rfl rfl h) (fun h => rr_invV0_no (S' := []) (L' := [some (.inr (.inr l0)), some (.inr (.inr ((-3 - ((1 : Nat) : Int))))), none]) (m' := (43, 0)) rfl rfl rfl rfl rfl rfl h) (fun h2 => ?_)
    refine bi_cg (fun z2 ω2 => ?_)
    refine Eq.trans (rr_if_eq rfl rfl) (it_cg (fun _ => ?_) (fun _ => ?_))
    · refine Eq.trans (rr_aload_n rfl rfl) ?_
      refine Eq.trans (rr_ldcS rfl rfl rfl) ?_
      refine ck_it (fun h => rr_invV0i (S' := []) (L' := [some (.inr (.inr l0)), some (.inr (.inr ((-3 - ((2 : Nat) : Int))))), none]) (m' := (43, 0)) rfl rfl rfl rfl rfl rfl h) (fun h => rr_invV0_no (S' := []) (L' := [some (.inr (.inr l0)), some (.inr (.inr ((-3 - ((2 : Nat) : Int))))), none]) (m' := (43, 0)) rfl rfl rfl rfl rfl rfl h) (fun h3 => ?_)
      refine bi_cg (fun z3 ω3 => ?_)
      refine Eq.trans (rr_if_eq rfl rfl) (it_cg (fun _ => ?_) (fun _ => ?_))
      · refine Eq.trans (rr_aload_n rfl rfl) ?_
        refine Eq.trans (rr_ldcS rfl rfl rfl) ?_
        refine ck_it (fun h => rr_invV0i (S' := []) (L' := [some (.inr (.inr l0)), some (.inr (.inr ((-3 - ((3 : Nat) : Int))))), none]) (m' := (43, 0)) rfl rfl rfl rfl rfl rfl h) (fun h => rr_invV0_no (S' := []) (L' := [some (.inr (.inr l0)), some (.inr (.inr ((-3 - ((3 : Nat) : Int))))), none]) (m' := (43, 0)) rfl rfl rfl rfl rfl rfl h) (fun h4 => ?_)
        refine bi_cg (fun z4 ω4 => ?_)
        refine Eq.trans (rr_if_eq rfl rfl) (it_cg (fun _ => ?_) (fun _ => ?_))
        · refine Eq.trans (rr_aload_n rfl rfl) ?_
          refine Eq.trans (rr_ldcS rfl rfl rfl) ?_
          refine ck_it (fun h => rr_invV0i (S' := []) (L' := [some (.inr (.inr l0)), some (.inr (.inr ((-3 - ((5 : Nat) : Int))))), none]) (m' := (43, 0)) rfl rfl rfl rfl rfl rfl h) (fun h => rr_invV0_no (S' := []) (L' := [some (.inr (.inr l0)), some (.inr (.inr ((-3 - ((5 : Nat) : Int))))), none]) (m' := (43, 0)) rfl rfl rfl rfl rfl rfl h) (fun h5 => ?_)
          refine bi_cg (fun z5 ω5 => ?_)
          refine Eq.trans (rr_if_eq rfl rfl) (it_cg (fun _ => ?_) (fun _ => ?_))
          · refine Eq.trans (rr_aload_n rfl rfl) ?_
            refine Eq.trans (rr_aload_n rfl rfl) ?_
            refine ck_it (fun h => rr_getfi rfl rfl rfl h) (fun h => rr_getfield_no rfl rfl h) (fun h6 => ?_)
            refine Eq.trans (rr_putfieldi rfl rfl rfl h6) ?_
            exact rr_return rfl rfl
          · refine Eq.trans (rr_aload_n rfl rfl) ?_
            refine ck_it (fun h => rr_invV0v (S' := []) (L' := [some (.inr (.inr l0)), none]) (m' := (40, 0)) rfl rfl rfl rfl rfl rfl h) (fun h => rr_invV0_no (S' := []) (L' := [some (.inr (.inr l0)), none]) (m' := (40, 0)) rfl rfl rfl rfl rfl rfl h) (fun h7 => ?_)
            refine bv_cg (fun ω6 => ?_)
            refine Eq.trans (rr_goto rfl rfl) ?_
            exact rr_return rfl rfl
        · refine Eq.trans (rr_aload_n rfl rfl) ?_
          refine ck_it (fun h => rr_invV0v (S' := []) (L' := [some (.inr (.inr l0)), none, none, none, none]) (m' := (39, 0)) rfl rfl rfl rfl rfl rfl h) (fun h => rr_invV0_no (S' := []) (L' := [some (.inr (.inr l0)), none, none, none, none]) (m' := (39, 0)) rfl rfl rfl rfl rfl rfl h) (fun h8 => ?_)
          refine bv_cg (fun ω7 => ?_)
          refine Eq.trans (rr_goto rfl rfl) ?_
          exact rr_return rfl rfl
      · refine Eq.trans (rr_aload_n rfl rfl) ?_
        refine ck_it (fun h => rr_invV0v (S' := []) (L' := [some (.inr (.inr l0)), none, none]) (m' := (38, 0)) rfl rfl rfl rfl rfl rfl h) (fun h => rr_invV0_no (S' := []) (L' := [some (.inr (.inr l0)), none, none]) (m' := (38, 0)) rfl rfl rfl rfl rfl rfl h) (fun h9 => ?_)
        refine bv_cg (fun ω8 => ?_)
        refine Eq.trans (rr_goto rfl rfl) ?_
        exact rr_return rfl rfl
    · refine Eq.trans (rr_aload_n rfl rfl) ?_
      refine ck_it (fun h => rr_invV0v (S' := []) (L' := [some (.inr (.inr l0)), none, none, none]) (m' := (37, 0)) rfl rfl rfl rfl rfl rfl h) (fun h => rr_invV0_no (S' := []) (L' := [some (.inr (.inr l0)), none, none, none]) (m' := (37, 0)) rfl rfl rfl rfl rfl rfl h) (fun h10 => ?_)
      refine bv_cg (fun ω9 => ?_)
      refine Eq.trans (rr_goto rfl rfl) ?_
      exact rr_return rfl rfl
  · refine Eq.trans (rr_aload_n rfl rfl) ?_
    refine ck_it (fun h => rr_invV0v (S' := []) (L' := [some (.inr (.inr l0)), none]) (m' := (36, 0)) rfl rfl rfl rfl rfl rfl h) (fun h => rr_invV0_no (S' := []) (L' := [some (.inr (.inr l0)), none]) (m' := (36, 0)) rfl rfl rfl rfl rfl rfl h) (fun h11 => ?_)
    refine bv_cg (fun ω10 => ?_)
    refine Eq.trans (rr_goto rfl rfl) ?_
    exact rr_return rfl rfl
theorem pX3_readCircles_0 (l0 : Int) (ω : am_W) (h1 : am_is ω l0 (3, 7) = true) (h2 : am_is ω (am_get ω l0.toNat 2) (5, 8) = true) : am_run (36, 0) 0 ([some (.inr (.inr l0)), none], [], ω) = if (am_get ω (am_get ω l0.toNat 2).toNat 3) ≤ 0 then (am_bv (am_run (44, 0) 0 ([some (.inr (.inr l0)), none, none], [], ω)) (fun ω1 => if am_is ω1 l0 (3, 7) = true then (am_bi (am_run (41, 0) 0 ([some (.inr (.inr l0)), some (.inl 2), some (.inl 6), none], [], ω1)) (fun z2 ω2 => if am_is ω2 l0 (3, 7) = true then (if ¬ (am_get ω2 l0.toNat 6) = ((-1)) then (some (none, ω2)) else (if am_is ω2 (am_get ω2 l0.toNat 2) (5, 8) = true then (some (none, am_put ω2 (am_get ω2 l0.toNat 2).toNat 0 z2)) else none)) else none)) else none)) else (some (none, am_put ω l0.toNat 6 (am_get ω l0.toNat 4))) := by
  refine Eq.trans (rr_aload_n rfl rfl) ?_
  refine Eq.trans (rr_getfr rfl rfl rfl h1) ?_
  refine Eq.trans (rr_getfi rfl rfl rfl h2) ?_
  refine Eq.trans (rr_if_le rfl rfl) (it_cg (fun _ => ?_) (fun _ => ?_))
  · refine Eq.trans (rr_aload_n rfl rfl) ?_
    refine Eq.trans (rr_invV0v (S' := []) (L' := [some (.inr (.inr l0)), none, none]) (m' := (44, 0)) rfl rfl rfl rfl rfl rfl h1) ?_
    refine bv_cg (fun ω1 => ?_)
    refine Eq.trans (rr_aload_n rfl rfl) ?_
    refine Eq.trans (rr_iconst rfl rfl) ?_
    refine Eq.trans (rr_bipush rfl rfl) ?_
    refine ck_it (fun h => rr_invV0i (S' := []) (L' := [some (.inr (.inr l0)), some (.inl 2), some (.inl 6), none]) (m' := (41, 0)) rfl rfl rfl rfl rfl rfl h) (fun h => rr_invV0_no (S' := []) (L' := [some (.inr (.inr l0)), some (.inl 2), some (.inl 6), none]) (m' := (41, 0)) rfl rfl rfl rfl rfl rfl h) (fun h3 => ?_)
    refine bi_cg (fun z2 ω2 => ?_)
    refine Eq.trans (rr_istore_n (L' := [some (.inr (.inr l0)), some (.inl z2)]) rfl rfl) ?_
    refine Eq.trans (rr_aload_n rfl rfl) ?_
    refine ck_it (fun h => rr_getfi rfl rfl rfl h) (fun h => rr_getfield_no rfl rfl h) (fun h4 => ?_)
    refine Eq.trans (rr_iconst rfl rfl) ?_
    refine Eq.trans (rr_icmp_ne rfl rfl) (it_cg (fun _ => ?_) (fun _ => ?_))
    · exact rr_return rfl rfl
    · refine Eq.trans (rr_aload_n rfl rfl) ?_
      refine Eq.trans (rr_getfr rfl rfl rfl h4) ?_
      refine Eq.trans (rr_iload_n rfl rfl) ?_
      refine ck_it (fun h => rr_putfieldi rfl rfl rfl h) (fun h => rr_putfieldi_no rfl rfl h) (fun h5 => ?_)
      exact rr_return rfl rfl
  · refine Eq.trans (rr_aload_n rfl rfl) ?_
    refine Eq.trans (rr_aload_n rfl rfl) ?_
    refine Eq.trans (rr_getfi rfl rfl rfl h1) ?_
    refine Eq.trans (rr_putfieldi rfl rfl rfl h1) ?_
    exact rr_return rfl rfl
theorem pX3_readTime_0 (l0 : Int) (ω : am_W) (h1 : am_is ω l0 (3, 7) = true) : am_run (37, 0) 0 ([some (.inr (.inr l0)), none, none, none], [], ω) = am_bv (am_run (44, 0) 0 ([some (.inr (.inr l0)), none, none], [], ω)) (fun ω1 => if am_is ω1 l0 (3, 7) = true then (if am_is ω1 (am_get ω1 l0.toNat 2) (5, 8) = true then (am_bi (am_run (41, 0) 0 ([some (.inr (.inr l0)), some (.inl 0), some (.inl (am_w ((am_get ω1 (am_get ω1 l0.toNat 2).toNat 0) - 1))), none], [], ω1)) (fun z2 ω2 => if am_is ω2 l0 (3, 7) = true then (if ¬ (am_get ω2 l0.toNat 6) = ((-1)) then (am_run (37, 0) 48 ([some (.inr (.inr l0)), some (.inl (am_get ω1 l0.toNat 4)), some (.inl z2), none], [], ω2)) else (if am_is ω2 (am_get ω2 l0.toNat 2) (5, 8) = true then (am_bi (am_run (64, 0) 0 ([some (.inr (.inr (am_get ω2 l0.toNat 2))), some (.inl z2), none, none], [], ω2)) (fun z3 ω3 => if z3 = 0 then (am_run (37, 0) 48 ([some (.inr (.inr l0)), some (.inl (am_get ω1 l0.toNat 4)), some (.inl z2), none], [], ω3)) else (if am_is ω3 l0 (3, 7) = true then (am_run (37, 0) 48 ([some (.inr (.inr l0)), some (.inl (am_get ω1 l0.toNat 4)), some (.inl z2), none], [], am_put ω3 l0.toNat 6 (am_get ω1 l0.toNat 4))) else none))) else none)) else none)) else none) else none) := by
  refine Eq.trans (rr_aload_n rfl rfl) ?_
  refine Eq.trans (rr_invV0v (S' := []) (L' := [some (.inr (.inr l0)), none, none]) (m' := (44, 0)) rfl rfl rfl rfl rfl rfl h1) ?_
  refine bv_cg (fun ω1 => ?_)
  refine Eq.trans (rr_aload_n rfl rfl) ?_
  refine ck_it (fun h => rr_getfi rfl rfl rfl h) (fun h => rr_getfield_no rfl rfl h) (fun h2 => ?_)
  refine Eq.trans (rr_istore_n (L' := [some (.inr (.inr l0)), some (.inl (am_get ω1 l0.toNat 4)), none, none]) rfl rfl) ?_
  refine Eq.trans (rr_aload_n rfl rfl) ?_
  refine Eq.trans (rr_iconst rfl rfl) ?_
  refine Eq.trans (rr_aload_n rfl rfl) ?_
  refine Eq.trans (rr_getfr rfl rfl rfl h2) ?_
  refine ck_it (fun h => rr_getfi rfl rfl rfl h) (fun h => rr_getfield_no rfl rfl h) (fun h3 => ?_)
  refine Eq.trans (rr_iconst rfl rfl) ?_
  refine Eq.trans (rr_isub rfl) ?_
  refine Eq.trans (rr_invV0i (S' := []) (L' := [some (.inr (.inr l0)), some (.inl 0), some (.inl (am_w ((am_get ω1 (am_get ω1 l0.toNat 2).toNat 0) - 1))), none]) (m' := (41, 0)) rfl rfl rfl rfl rfl rfl h2) ?_
  refine bi_cg (fun z2 ω2 => ?_)
  refine Eq.trans (rr_istore_n (L' := [some (.inr (.inr l0)), some (.inl (am_get ω1 l0.toNat 4)), some (.inl z2), none]) rfl rfl) ?_
  refine Eq.trans (rr_aload_n rfl rfl) ?_
  refine ck_it (fun h => rr_getfi rfl rfl rfl h) (fun h => rr_getfield_no rfl rfl h) (fun h4 => ?_)
  refine Eq.trans (rr_iconst rfl rfl) ?_
  refine Eq.trans (rr_icmp_ne rfl rfl) (it_cg (fun _ => ?_) (fun _ => ?_))
  · rfl
  · refine Eq.trans (rr_aload_n rfl rfl) ?_
    refine Eq.trans (rr_getfr rfl rfl rfl h4) ?_
    refine Eq.trans (rr_iload_n rfl rfl) ?_
    refine ck_it (fun h => rr_invV0i (S' := []) (L' := [some (.inr (.inr (am_get ω2 l0.toNat 2))), some (.inl z2), none, none]) (m' := (64, 0)) rfl rfl rfl rfl rfl rfl h) (fun h => rr_invV0_no (S' := []) (L' := [some (.inr (.inr (am_get ω2 l0.toNat 2))), some (.inl z2), none, none]) (m' := (64, 0)) rfl rfl rfl rfl rfl rfl h) (fun h5 => ?_)
    refine bi_cg (fun z3 ω3 => ?_)
    refine Eq.trans (rr_if_eq rfl rfl) (it_cg (fun _ => ?_) (fun _ => ?_))
    · rfl
    · refine Eq.trans (rr_aload_n rfl rfl) ?_
      refine Eq.trans (rr_iload_n rfl rfl) ?_
      refine ck_it (fun h => rr_putfieldi rfl rfl rfl h) (fun h => rr_putfieldi_no rfl rfl h) (fun h6 => ?_)
      rfl
theorem pX3_readTime_48 (l0 l1 l2 : Int) (o3 : Option am_V) (ω : am_W) (h1 : am_is ω l0 (3, 7) = true) : am_run (37, 0) 48 ([some (.inr (.inr l0)), some (.inl l1), some (.inl l2), o3], [], ω) = am_bi (am_run (41, 0) 0 ([some (.inr (.inr l0)), some (.inl 2), some (.inl 20), none], [], ω)) (fun z1 ω1 => if am_is ω1 l0 (3, 7) = true then (if ¬ (am_get ω1 l0.toNat 6) = ((-1)) then (some (none, ω1)) else (if am_is ω1 (am_get ω1 l0.toNat 2) (5, 8) = true then (if am_in ω1 (am_get ω1 (am_get ω1 l0.toNat 2).toNat 1) 100 l2 = true then (some (none, am_put ω1 (am_get ω1 (am_get ω1 l0.toNat 2).toNat 1).toNat l2.toNat z1)) else none) else none)) else none) := by
  refine Eq.trans (rr_aload_n rfl rfl) ?_
  refine Eq.trans (rr_iconst rfl rfl) ?_
  refine Eq.trans (rr_bipush rfl rfl) ?_
  refine Eq.trans (rr_invV0i (S' := []) (L' := [some (.inr (.inr l0)), some (.inl 2), some (.inl 20), none]) (m' := (41, 0)) rfl rfl rfl rfl rfl rfl h1) ?_
  refine bi_cg (fun z1 ω1 => ?_)
  refine Eq.trans (rr_istore_n (L' := [some (.inr (.inr l0)), some (.inl l1), some (.inl l2), some (.inl z1)]) rfl rfl) ?_
  refine Eq.trans (rr_aload_n rfl rfl) ?_
  refine ck_it (fun h => rr_getfi rfl rfl rfl h) (fun h => rr_getfield_no rfl rfl h) (fun h2 => ?_)
  refine Eq.trans (rr_iconst rfl rfl) ?_
  refine Eq.trans (rr_icmp_ne rfl rfl) (it_cg (fun _ => ?_) (fun _ => ?_))
  · exact rr_return rfl rfl
  · refine Eq.trans (rr_aload_n rfl rfl) ?_
    refine Eq.trans (rr_getfr rfl rfl rfl h2) ?_
    refine ck_it (fun h => rr_getfr rfl rfl rfl h) (fun h => rr_getfield_no rfl rfl h) (fun h3 => ?_)
    refine Eq.trans (rr_iload_n rfl rfl) ?_
    refine Eq.trans (rr_iload_n rfl rfl) ?_
    refine ck_it (fun h => rr_iastore rfl h) (fun h => rr_iastore_no rfl h) (fun h4 => ?_)
    exact rr_return rfl rfl
theorem pX3_readCost_0 (l0 : Int) (ω : am_W) (h1 : am_is ω l0 (3, 7) = true) : am_run (38, 0) 0 ([some (.inr (.inr l0)), none, none], [], ω) = am_bv (am_run (44, 0) 0 ([some (.inr (.inr l0)), none, none], [], ω)) (fun ω1 => if am_is ω1 l0 (3, 7) = true then (if am_is ω1 (am_get ω1 l0.toNat 2) (5, 8) = true then (am_bi (am_run (41, 0) 0 ([some (.inr (.inr l0)), some (.inl 0), some (.inl (am_w ((am_get ω1 (am_get ω1 l0.toNat 2).toNat 0) - 2))), none], [], ω1)) (fun z2 ω2 => if am_is ω2 l0 (3, 7) = true then (am_bi (am_run (41, 0) 0 ([some (.inr (.inr l0)), some (.inl 1), some (.inl 9), none], [], ω2)) (fun z3 ω3 => if am_is ω3 l0 (3, 7) = true then (if ¬ (am_get ω3 l0.toNat 6) = ((-1)) then (some (none, ω3)) else (if am_is ω3 (am_get ω3 l0.toNat 2) (5, 8) = true then (if am_in ω3 (am_get ω3 (am_get ω3 l0.toNat 2).toNat 2) 100 z2 = true then (some (none, am_put ω3 (am_get ω3 (am_get ω3 l0.toNat 2).toNat 2).toNat z2.toNat z3)) else none) else none)) else none)) else none)) else none) else none) := by
  refine Eq.trans (rr_aload_n rfl rfl) ?_
  refine Eq.trans (rr_invV0v (S' := []) (L' := [some (.inr (.inr l0)), none, none]) (m' := (44, 0)) rfl rfl rfl rfl rfl rfl h1) ?_
  refine bv_cg (fun ω1 => ?_)
  refine Eq.trans (rr_aload_n rfl rfl) ?_
  refine Eq.trans (rr_iconst rfl rfl) ?_
  refine Eq.trans (rr_aload_n rfl rfl) ?_
  refine ck_it (fun h => rr_getfr rfl rfl rfl h) (fun h => rr_getfield_no rfl rfl h) (fun h2 => ?_)
  refine ck_it (fun h => rr_getfi rfl rfl rfl h) (fun h => rr_getfield_no rfl rfl h) (fun h3 => ?_)
  refine Eq.trans (rr_iconst rfl rfl) ?_
  refine Eq.trans (rr_isub rfl) ?_
  refine Eq.trans (rr_invV0i (S' := []) (L' := [some (.inr (.inr l0)), some (.inl 0), some (.inl (am_w ((am_get ω1 (am_get ω1 l0.toNat 2).toNat 0) - 2))), none]) (m' := (41, 0)) rfl rfl rfl rfl rfl rfl h2) ?_
  refine bi_cg (fun z2 ω2 => ?_)
  refine Eq.trans (rr_istore_n (L' := [some (.inr (.inr l0)), some (.inl z2), none]) rfl rfl) ?_
  refine Eq.trans (rr_aload_n rfl rfl) ?_
  refine Eq.trans (rr_iconst rfl rfl) ?_
  refine Eq.trans (rr_bipush rfl rfl) ?_
  refine ck_it (fun h => rr_invV0i (S' := []) (L' := [some (.inr (.inr l0)), some (.inl 1), some (.inl 9), none]) (m' := (41, 0)) rfl rfl rfl rfl rfl rfl h) (fun h => rr_invV0_no (S' := []) (L' := [some (.inr (.inr l0)), some (.inl 1), some (.inl 9), none]) (m' := (41, 0)) rfl rfl rfl rfl rfl rfl h) (fun h4 => ?_)
  refine bi_cg (fun z3 ω3 => ?_)
  refine Eq.trans (rr_istore_n (L' := [some (.inr (.inr l0)), some (.inl z2), some (.inl z3)]) rfl rfl) ?_
  refine Eq.trans (rr_aload_n rfl rfl) ?_
  refine ck_it (fun h => rr_getfi rfl rfl rfl h) (fun h => rr_getfield_no rfl rfl h) (fun h5 => ?_)
  refine Eq.trans (rr_iconst rfl rfl) ?_
  refine Eq.trans (rr_icmp_ne rfl rfl) (it_cg (fun _ => ?_) (fun _ => ?_))
  · exact rr_return rfl rfl
  · refine Eq.trans (rr_aload_n rfl rfl) ?_
    refine Eq.trans (rr_getfr rfl rfl rfl h5) ?_
    refine ck_it (fun h => rr_getfr rfl rfl rfl h) (fun h => rr_getfield_no rfl rfl h) (fun h6 => ?_)
    refine Eq.trans (rr_iload_n rfl rfl) ?_
    refine Eq.trans (rr_iload_n rfl rfl) ?_
    refine ck_it (fun h => rr_iastore rfl h) (fun h => rr_iastore_no rfl h) (fun h7 => ?_)
    exact rr_return rfl rfl
theorem pX3_readShip_0 (l0 : Int) (ω : am_W) (h1 : am_is ω l0 (3, 7) = true) (h2 : am_is ω (am_get ω l0.toNat 2) (5, 8) = true) : am_run (39, 0) 0 ([some (.inr (.inr l0)), none, none, none, none], [], ω) = am_bi (am_run (60, 0) 0 ([some (.inr (.inr (am_get ω l0.toNat 2)))], [], ω)) (fun z1 ω1 => if z1 = 0 then (if am_is ω1 l0 (3, 7) = true then (am_bv (am_run (44, 0) 0 ([some (.inr (.inr l0)), none, none], [], ω1)) (fun ω2 => if am_is ω2 l0 (3, 7) = true then (am_bi (am_run (41, 0) 0 ([some (.inr (.inr l0)), some (.inl 0), some (.inl 5), none], [], ω2)) (fun z3 ω3 => if am_is ω3 l0 (3, 7) = true then (if am_is ω3 (am_get ω3 l0.toNat 2) (5, 8) = true then (am_bi (am_run (41, 0) 0 ([some (.inr (.inr l0)), some (.inl 0), some (.inl (am_w ((am_get ω3 (am_get ω3 l0.toNat 2).toNat 0) - 1))), none], [], ω3)) (fun z4 ω4 => if am_is ω4 l0 (3, 7) = true then (if am_is ω4 (am_get ω4 l0.toNat 2) (5, 8) = true then (am_bi (am_run (61, 0) 0 ([some (.inr (.inr (am_get ω4 l0.toNat 2))), some (.inl z4)], [], ω4)) (fun z5 ω5 => if am_is ω5 l0 (3, 7) = true then (am_bi (am_run (41, 0) 0 ([some (.inr (.inr l0)), some (.inl 0), some (.inl (am_w (z5 - 1))), none], [], ω5)) (fun z6 ω6 => if am_is ω6 l0 (3, 7) = true then (if ¬ (am_get ω6 l0.toNat 6) = ((-1)) then (if ¬ (am_get ω6 l0.toNat 6) = ((-1)) then (some (none, ω6)) else (if am_is ω6 (am_get ω6 l0.toNat 2) (5, 8) = true then (am_bi (am_run (63, 0) 0 ([some (.inr (.inr (am_get ω6 l0.toNat 2))), some (.inl z3), some (.inl z4), some (.inl z6), some (.inl 0), none], [], ω6)) (fun z7 ω7 => some (none, ω7))) else none)) else (am_bi (am_run (43, 0) 0 ([some (.inr (.inr l0)), some (.inr (.inr ((-3 - ((4 : Nat) : Int))))), none], [], ω6)) (fun z8 ω8 => if z8 = 0 then (if am_is ω8 l0 (3, 7) = true then (if ¬ (am_get ω8 l0.toNat 6) = ((-1)) then (some (none, ω8)) else (if am_is ω8 (am_get ω8 l0.toNat 2) (5, 8) = true then (am_bi (am_run (63, 0) 0 ([some (.inr (.inr (am_get ω8 l0.toNat 2))), some (.inl z3), some (.inl z4), some (.inl z6), some (.inl 0), none], [], ω8)) (fun z9 ω9 => some (none, ω9))) else none)) else none) else (if am_is ω8 l0 (3, 7) = true then (am_bv (am_run (44, 0) 0 ([some (.inr (.inr l0)), none, none], [], ω8)) (fun ω10 => if am_is ω10 l0 (3, 7) = true then (am_bi (am_run (41, 0) 0 ([some (.inr (.inr l0)), some (.inl 0), some (.inl 99), none], [], ω10)) (fun z11 ω11 => if am_is ω11 l0 (3, 7) = true then (if ¬ (am_get ω11 l0.toNat 6) = ((-1)) then (some (none, ω11)) else (if am_is ω11 (am_get ω11 l0.toNat 2) (5, 8) = true then (am_bi (am_run (63, 0) 0 ([some (.inr (.inr (am_get ω11 l0.toNat 2))), some (.inl z3), some (.inl z4), some (.inl z6), some (.inl z11), none], [], ω11)) (fun z12 ω12 => some (none, ω12))) else none)) else none)) else none)) else none)))) else none)) else none)) else none) else none)) else none) else none)) else none)) else none) else (if am_is ω1 l0 (3, 7) = true then (some (none, am_put ω1 l0.toNat 6 (am_get ω1 l0.toNat 4))) else none)) := by
  refine Eq.trans (rr_aload_n rfl rfl) ?_
  refine Eq.trans (rr_getfr rfl rfl rfl h1) ?_
  refine Eq.trans (rr_invV0i (S' := []) (L' := [some (.inr (.inr (am_get ω l0.toNat 2)))]) (m' := (60, 0)) rfl rfl rfl rfl rfl rfl h2) ?_
  refine bi_cg (fun z1 ω1 => ?_)
  refine Eq.trans (rr_if_eq rfl rfl) (it_cg (fun _ => ?_) (fun _ => ?_))
  · refine Eq.trans (rr_aload_n rfl rfl) ?_
    refine ck_it (fun h => rr_invV0v (S' := []) (L' := [some (.inr (.inr l0)), none, none]) (m' := (44, 0)) rfl rfl rfl rfl rfl rfl h) (fun h => rr_invV0_no (S' := []) (L' := [some (.inr (.inr l0)), none, none]) (m' := (44, 0)) rfl rfl rfl rfl rfl rfl h) (fun h3 => ?_)
    refine bv_cg (fun ω2 => ?_)
    refine Eq.trans (rr_aload_n rfl rfl) ?_
    refine Eq.trans (rr_iconst rfl rfl) ?_
    refine Eq.trans (rr_iconst rfl rfl) ?_
    refine ck_it (fun h => rr_invV0i (S' := []) (L' := [some (.inr (.inr l0)), some (.inl 0), some (.inl 5), none]) (m' := (41, 0)) rfl rfl rfl rfl rfl rfl h) (fun h => rr_invV0_no (S' := []) (L' := [some (.inr (.inr l0)), some (.inl 0), some (.inl 5), none]) (m' := (41, 0)) rfl rfl rfl rfl rfl rfl h) (fun h4 => ?_)
    refine bi_cg (fun z3 ω3 => ?_)
    refine Eq.trans (rr_istore_n (L' := [some (.inr (.inr l0)), some (.inl z3), none, none, none]) rfl rfl) ?_
    refine Eq.trans (rr_aload_n rfl rfl) ?_
    refine Eq.trans (rr_iconst rfl rfl) ?_
    refine Eq.trans (rr_aload_n rfl rfl) ?_
    refine ck_it (fun h => rr_getfr rfl rfl rfl h) (fun h => rr_getfield_no rfl rfl h) (fun h5 => ?_)
    refine ck_it (fun h => rr_getfi rfl rfl rfl h) (fun h => rr_getfield_no rfl rfl h) (fun h6 => ?_)
    refine Eq.trans (rr_iconst rfl rfl) ?_
    refine Eq.trans (rr_isub rfl) ?_
    refine Eq.trans (rr_invV0i (S' := []) (L' := [some (.inr (.inr l0)), some (.inl 0), some (.inl (am_w ((am_get ω3 (am_get ω3 l0.toNat 2).toNat 0) - 1))), none]) (m' := (41, 0)) rfl rfl rfl rfl rfl rfl h5) ?_
    refine bi_cg (fun z4 ω4 => ?_)
    refine Eq.trans (rr_istore_n (L' := [some (.inr (.inr l0)), some (.inl z3), some (.inl z4), none, none]) rfl rfl) ?_
    refine Eq.trans (rr_aload_n rfl rfl) ?_
    refine Eq.trans (rr_iconst rfl rfl) ?_
    refine Eq.trans (rr_aload_n rfl rfl) ?_
    refine ck_it (fun h => rr_getfr rfl rfl rfl h) (fun h => rr_getfield_no rfl rfl h) (fun h7 => ?_)
    refine Eq.trans (rr_iload_n rfl rfl) ?_
    refine ck_it (fun h => rr_invV0i (S' := [.inl 0, .inr (.inr l0)]) (L' := [some (.inr (.inr (am_get ω4 l0.toNat 2))), some (.inl z4)]) (m' := (61, 0)) rfl rfl rfl rfl rfl rfl h) (fun h => rr_invV0_no (S' := [.inl 0, .inr (.inr l0)]) (L' := [some (.inr (.inr (am_get ω4 l0.toNat 2))), some (.inl z4)]) (m' := (61, 0)) rfl rfl rfl rfl rfl rfl h) (fun h8 => ?_)
    refine bi_cg (fun z5 ω5 => ?_)
    refine Eq.trans (rr_iconst rfl rfl) ?_
    refine Eq.trans (rr_isub rfl) ?_
    refine ck_it (fun h => rr_invV0i (S' := []) (L' := [some (.inr (.inr l0)), some (.inl 0), some (.inl (am_w (z5 - 1))), none]) (m' := (41, 0)) rfl rfl rfl rfl rfl rfl h) (fun h => rr_invV0_no (S' := []) (L' := [some (.inr (.inr l0)), some (.inl 0), some (.inl (am_w (z5 - 1))), none]) (m' := (41, 0)) rfl rfl rfl rfl rfl rfl h) (fun h9 => ?_)
    refine bi_cg (fun z6 ω6 => ?_)
    refine Eq.trans (rr_istore_n (L' := [some (.inr (.inr l0)), some (.inl z3), some (.inl z4), some (.inl z6), none]) rfl rfl) ?_
    refine Eq.trans (rr_iconst rfl rfl) ?_
    refine Eq.trans (rr_istore (L' := [some (.inr (.inr l0)), some (.inl z3), some (.inl z4), some (.inl z6), some (.inl 0)]) rfl rfl) ?_
    refine Eq.trans (rr_aload_n rfl rfl) ?_
    refine ck_it (fun h => rr_getfi rfl rfl rfl h) (fun h => rr_getfield_no rfl rfl h) (fun h10 => ?_)
    refine Eq.trans (rr_iconst rfl rfl) ?_
    refine Eq.trans (rr_icmp_ne rfl rfl) (it_cg (fun _ => ?_) (fun _ => ?_))
    · refine Eq.trans (rr_aload_n rfl rfl) ?_
      refine Eq.trans (rr_getfi rfl rfl rfl h10) ?_
      refine Eq.trans (rr_iconst rfl rfl) ?_
      refine Eq.trans (rr_icmp_ne rfl rfl) (it_cg (fun _ => ?_) (fun _ => ?_))
      · exact rr_return rfl rfl
      · refine Eq.trans (rr_aload_n rfl rfl) ?_
        refine Eq.trans (rr_getfr rfl rfl rfl h10) ?_
        refine Eq.trans (rr_iload_n rfl rfl) ?_
        refine Eq.trans (rr_iload_n rfl rfl) ?_
        refine Eq.trans (rr_iload_n rfl rfl) ?_
        refine Eq.trans (rr_iload rfl rfl) ?_
        refine ck_it (fun h => rr_invV0i (S' := []) (L' := [some (.inr (.inr (am_get ω6 l0.toNat 2))), some (.inl z3), some (.inl z4), some (.inl z6), some (.inl 0), none]) (m' := (63, 0)) rfl rfl rfl rfl rfl rfl h) (fun h => rr_invV0_no (S' := []) (L' := [some (.inr (.inr (am_get ω6 l0.toNat 2))), some (.inl z3), some (.inl z4), some (.inl z6), some (.inl 0), none]) (m' := (63, 0)) rfl rfl rfl rfl rfl rfl h) (fun h11 => ?_)
        refine bi_cg (fun z7 ω7 => ?_)
        refine Eq.trans (rr_popi rfl) ?_
        exact rr_return rfl rfl
    · refine Eq.trans (rr_aload_n rfl rfl) ?_
      refine Eq.trans (rr_ldcS rfl rfl rfl) ?_
      refine Eq.trans (rr_invV0i (S' := []) (L' := [some (.inr (.inr l0)), some (.inr (.inr ((-3 - ((4 : Nat) : Int))))), none]) (m' := (43, 0)) rfl rfl rfl rfl rfl rfl h10) ?_
      refine bi_cg (fun z8 ω8 => ?_)
      refine Eq.trans (rr_if_eq rfl rfl) (it_cg (fun _ => ?_) (fun _ => ?_))
      · refine Eq.trans (rr_aload_n rfl rfl) ?_
        refine ck_it (fun h => rr_getfi rfl rfl rfl h) (fun h => rr_getfield_no rfl rfl h) (fun h12 => ?_)
        refine Eq.trans (rr_iconst rfl rfl) ?_
        refine Eq.trans (rr_icmp_ne rfl rfl) (it_cg (fun _ => ?_) (fun _ => ?_))
        · exact rr_return rfl rfl
        · refine Eq.trans (rr_aload_n rfl rfl) ?_
          refine Eq.trans (rr_getfr rfl rfl rfl h12) ?_
          refine Eq.trans (rr_iload_n rfl rfl) ?_
          refine Eq.trans (rr_iload_n rfl rfl) ?_
          refine Eq.trans (rr_iload_n rfl rfl) ?_
          refine Eq.trans (rr_iload rfl rfl) ?_
          refine ck_it (fun h => rr_invV0i (S' := []) (L' := [some (.inr (.inr (am_get ω8 l0.toNat 2))), some (.inl z3), some (.inl z4), some (.inl z6), some (.inl 0), none]) (m' := (63, 0)) rfl rfl rfl rfl rfl rfl h) (fun h => rr_invV0_no (S' := []) (L' := [some (.inr (.inr (am_get ω8 l0.toNat 2))), some (.inl z3), some (.inl z4), some (.inl z6), some (.inl 0), none]) (m' := (63, 0)) rfl rfl rfl rfl rfl rfl h) (fun h13 => ?_)
          refine bi_cg (fun z9 ω9 => ?_)
          refine Eq.trans (rr_popi rfl) ?_
          exact rr_return rfl rfl
      · refine Eq.trans (rr_aload_n rfl rfl) ?_
        refine ck_it (fun h => rr_invV0v (S' := []) (L' := [some (.inr (.inr l0)), none, none]) (m' := (44, 0)) rfl rfl rfl rfl rfl rfl h) (fun h => rr_invV0_no (S' := []) (L' := [some (.inr (.inr l0)), none, none]) (m' := (44, 0)) rfl rfl rfl rfl rfl rfl h) (fun h14 => ?_)
        refine bv_cg (fun ω10 => ?_)
        refine Eq.trans (rr_aload_n rfl rfl) ?_
        refine Eq.trans (rr_iconst rfl rfl) ?_
        refine Eq.trans (rr_bipush rfl rfl) ?_
        refine ck_it (fun h => rr_invV0i (S' := []) (L' := [some (.inr (.inr l0)), some (.inl 0), some (.inl 99), none]) (m' := (41, 0)) rfl rfl rfl rfl rfl rfl h) (fun h => rr_invV0_no (S' := []) (L' := [some (.inr (.inr l0)), some (.inl 0), some (.inl 99), none]) (m' := (41, 0)) rfl rfl rfl rfl rfl rfl h) (fun h15 => ?_)
        refine bi_cg (fun z11 ω11 => ?_)
        refine Eq.trans (rr_istore (L' := [some (.inr (.inr l0)), some (.inl z3), some (.inl z4), some (.inl z6), some (.inl z11)]) rfl rfl) ?_
        refine Eq.trans (rr_aload_n rfl rfl) ?_
        refine ck_it (fun h => rr_getfi rfl rfl rfl h) (fun h => rr_getfield_no rfl rfl h) (fun h16 => ?_)
        refine Eq.trans (rr_iconst rfl rfl) ?_
        refine Eq.trans (rr_icmp_ne rfl rfl) (it_cg (fun _ => ?_) (fun _ => ?_))
        · exact rr_return rfl rfl
        · refine Eq.trans (rr_aload_n rfl rfl) ?_
          refine Eq.trans (rr_getfr rfl rfl rfl h16) ?_
          refine Eq.trans (rr_iload_n rfl rfl) ?_
          refine Eq.trans (rr_iload_n rfl rfl) ?_
          refine Eq.trans (rr_iload_n rfl rfl) ?_
          refine Eq.trans (rr_iload rfl rfl) ?_
          refine ck_it (fun h => rr_invV0i (S' := []) (L' := [some (.inr (.inr (am_get ω11 l0.toNat 2))), some (.inl z3), some (.inl z4), some (.inl z6), some (.inl z11), none]) (m' := (63, 0)) rfl rfl rfl rfl rfl rfl h) (fun h => rr_invV0_no (S' := []) (L' := [some (.inr (.inr (am_get ω11 l0.toNat 2))), some (.inl z3), some (.inl z4), some (.inl z6), some (.inl z11), none]) (m' := (63, 0)) rfl rfl rfl rfl rfl rfl h) (fun h17 => ?_)
          refine bi_cg (fun z12 ω12 => ?_)
          refine Eq.trans (rr_popi rfl) ?_
          exact rr_return rfl rfl
  · refine Eq.trans (rr_aload_n rfl rfl) ?_
    refine Eq.trans (rr_aload_n rfl rfl) ?_
    refine ck_it (fun h => rr_getfi rfl rfl rfl h) (fun h => rr_getfield_no rfl rfl h) (fun h18 => ?_)
    refine Eq.trans (rr_putfieldi rfl rfl rfl h18) ?_
    exact rr_return rfl rfl
theorem pX3_readSteps_0 (l0 : Int) (ω : am_W) (h1 : am_is ω l0 (3, 7) = true) : am_run (40, 0) 0 ([some (.inr (.inr l0)), none], [], ω) = am_bv (am_run (44, 0) 0 ([some (.inr (.inr l0)), none, none], [], ω)) (fun ω1 => if am_is ω1 l0 (3, 7) = true then (am_bi (am_run (41, 0) 0 ([some (.inr (.inr l0)), some (.inl 1), some (.inl 60), none], [], ω1)) (fun z2 ω2 => if am_is ω2 l0 (3, 7) = true then (if ¬ (am_get ω2 l0.toNat 6) = ((-1)) then (some (none, ω2)) else (if am_is ω2 (am_get ω2 l0.toNat 2) (5, 8) = true then (am_bi (am_run (77, 0) 0 ([some (.inr (.inr (am_get ω2 l0.toNat 2))), some (.inl z2), none, none, none], [], ω2)) (fun z3 ω3 => some (none, ω3))) else none)) else none)) else none) := by
  refine Eq.trans (rr_aload_n rfl rfl) ?_
  refine Eq.trans (rr_invV0v (S' := []) (L' := [some (.inr (.inr l0)), none, none]) (m' := (44, 0)) rfl rfl rfl rfl rfl rfl h1) ?_
  refine bv_cg (fun ω1 => ?_)
  refine Eq.trans (rr_aload_n rfl rfl) ?_
  refine Eq.trans (rr_iconst rfl rfl) ?_
  refine Eq.trans (rr_bipush rfl rfl) ?_
  refine ck_it (fun h => rr_invV0i (S' := []) (L' := [some (.inr (.inr l0)), some (.inl 1), some (.inl 60), none]) (m' := (41, 0)) rfl rfl rfl rfl rfl rfl h) (fun h => rr_invV0_no (S' := []) (L' := [some (.inr (.inr l0)), some (.inl 1), some (.inl 60), none]) (m' := (41, 0)) rfl rfl rfl rfl rfl rfl h) (fun h2 => ?_)
  refine bi_cg (fun z2 ω2 => ?_)
  refine Eq.trans (rr_istore_n (L' := [some (.inr (.inr l0)), some (.inl z2)]) rfl rfl) ?_
  refine Eq.trans (rr_aload_n rfl rfl) ?_
  refine ck_it (fun h => rr_getfi rfl rfl rfl h) (fun h => rr_getfield_no rfl rfl h) (fun h3 => ?_)
  refine Eq.trans (rr_iconst rfl rfl) ?_
  refine Eq.trans (rr_icmp_ne rfl rfl) (it_cg (fun _ => ?_) (fun _ => ?_))
  · exact rr_return rfl rfl
  · refine Eq.trans (rr_aload_n rfl rfl) ?_
    refine Eq.trans (rr_getfr rfl rfl rfl h3) ?_
    refine Eq.trans (rr_iload_n rfl rfl) ?_
    refine ck_it (fun h => rr_invV0i (S' := []) (L' := [some (.inr (.inr (am_get ω2 l0.toNat 2))), some (.inl z2), none, none, none]) (m' := (77, 0)) rfl rfl rfl rfl rfl rfl h) (fun h => rr_invV0_no (S' := []) (L' := [some (.inr (.inr (am_get ω2 l0.toNat 2))), some (.inl z2), none, none, none]) (m' := (77, 0)) rfl rfl rfl rfl rfl rfl h) (fun h4 => ?_)
    refine bi_cg (fun z3 ω3 => ?_)
    refine Eq.trans (rr_popi rfl) ?_
    exact rr_return rfl rfl
theorem pX3_readNumber_0 (l0 l1 l2 : Int) (ω : am_W) (h1 : am_is ω l0 (3, 7) = true) : am_run (41, 0) 0 ([some (.inr (.inr l0)), some (.inl l1), some (.inl l2), none], [], ω) = if (am_get ω l0.toNat 6) = ((-1)) then (if ¬ (am_get ω l0.toNat 3) = 2 then (am_run (41, 0) 38 ([some (.inr (.inr l0)), some (.inl l1), some (.inl l2), none], [], ω)) else (if 2 < (am_w ((am_get ω l0.toNat 5) - (am_get ω l0.toNat 4))) then (am_run (41, 0) 38 ([some (.inr (.inr l0)), some (.inl l1), some (.inl l2), none], [], ω)) else (am_bi (am_run (42, 0) 0 ([some (.inr (.inr l0)), none, none], [], ω)) (fun z1 ω1 => am_run (41, 0) 39 ([some (.inr (.inr l0)), some (.inl l1), some (.inl l2), none], [.inl z1], ω1))))) else (some (some (.inl ((-1))), ω)) := by
  refine Eq.trans (rr_aload_n rfl rfl) ?_
  refine Eq.trans (rr_getfi rfl rfl rfl h1) ?_
  refine Eq.trans (rr_iconst rfl rfl) ?_
  refine Eq.trans (rr_icmp_eq rfl rfl) (it_cg (fun _ => ?_) (fun _ => ?_))
  · refine Eq.trans (rr_aload_n rfl rfl) ?_
    refine Eq.trans (rr_getfi rfl rfl rfl h1) ?_
    refine Eq.trans (rr_iconst rfl rfl) ?_
    refine Eq.trans (rr_icmp_ne rfl rfl) (it_cg (fun _ => ?_) (fun _ => ?_))
    · rfl
    · refine Eq.trans (rr_aload_n rfl rfl) ?_
      refine Eq.trans (rr_getfi rfl rfl rfl h1) ?_
      refine Eq.trans (rr_aload_n rfl rfl) ?_
      refine Eq.trans (rr_getfi rfl rfl rfl h1) ?_
      refine Eq.trans (rr_isub rfl) ?_
      refine Eq.trans (rr_iconst rfl rfl) ?_
      refine Eq.trans (rr_icmp_gt rfl rfl) (it_cg (fun _ => ?_) (fun _ => ?_))
      · rfl
      · refine Eq.trans (rr_aload_n rfl rfl) ?_
        refine Eq.trans (rr_invV0i (S' := []) (L' := [some (.inr (.inr l0)), none, none]) (m' := (42, 0)) rfl rfl rfl rfl rfl rfl h1) ?_
        refine bi_cg (fun z1 ω1 => ?_)
        refine Eq.trans (rr_goto rfl rfl) ?_
        rfl
  · refine Eq.trans (rr_iconst rfl rfl) ?_
    exact rr_ireturn rfl rfl
theorem pX3_readNumber_38 (l0 l1 l2 : Int) (o3 : Option am_V) (ω : am_W) : am_run (41, 0) 38 ([some (.inr (.inr l0)), some (.inl l1), some (.inl l2), o3], [], ω) = am_run (41, 0) 39 ([some (.inr (.inr l0)), some (.inl l1), some (.inl l2), o3], [.inl ((-1))], ω) := by
  refine Eq.trans (rr_iconst rfl rfl) ?_
  rfl
theorem pX3_readNumber_39 (l0 l1 l2 s0 : Int) (o3 : Option am_V) (ω : am_W) (h1 : am_is ω l0 (3, 7) = true) : am_run (41, 0) 39 ([some (.inr (.inr l0)), some (.inl l1), some (.inl l2), o3], [.inl s0], ω) = if s0 < l1 then (some (some (.inl ((-1))), am_put ω l0.toNat 6 (am_get ω l0.toNat 4))) else (if s0 ≤ l2 then (am_bv (am_run (44, 0) 0 ([some (.inr (.inr l0)), none, none], [], ω)) (fun ω1 => some (some (.inl s0), ω1))) else (some (some (.inl ((-1))), am_put ω l0.toNat 6 (am_get ω l0.toNat 4)))) := by
  refine Eq.trans (rr_istore_n (L' := [some (.inr (.inr l0)), some (.inl l1), some (.inl l2), some (.inl s0)]) rfl rfl) ?_
  refine Eq.trans (rr_iload_n rfl rfl) ?_
  refine Eq.trans (rr_iload_n rfl rfl) ?_
  refine Eq.trans (rr_icmp_lt rfl rfl) (it_cg (fun _ => ?_) (fun _ => ?_))
  · refine Eq.trans (rr_aload_n rfl rfl) ?_
    refine Eq.trans (rr_aload_n rfl rfl) ?_
    refine Eq.trans (rr_getfi rfl rfl rfl h1) ?_
    refine Eq.trans (rr_putfieldi rfl rfl rfl h1) ?_
    refine Eq.trans (rr_iconst rfl rfl) ?_
    exact rr_ireturn rfl rfl
  · refine Eq.trans (rr_iload_n rfl rfl) ?_
    refine Eq.trans (rr_iload_n rfl rfl) ?_
    refine Eq.trans (rr_icmp_le rfl rfl) (it_cg (fun _ => ?_) (fun _ => ?_))
    · refine Eq.trans (rr_aload_n rfl rfl) ?_
      refine Eq.trans (rr_invV0v (S' := []) (L' := [some (.inr (.inr l0)), none, none]) (m' := (44, 0)) rfl rfl rfl rfl rfl rfl h1) ?_
      refine bv_cg (fun ω1 => ?_)
      refine Eq.trans (rr_iload_n rfl rfl) ?_
      exact rr_ireturn rfl rfl
    · refine Eq.trans (rr_aload_n rfl rfl) ?_
      refine Eq.trans (rr_aload_n rfl rfl) ?_
      refine Eq.trans (rr_getfi rfl rfl rfl h1) ?_
      refine Eq.trans (rr_putfieldi rfl rfl rfl h1) ?_
      refine Eq.trans (rr_iconst rfl rfl) ?_
      exact rr_ireturn rfl rfl
theorem pX3_numberHere_0 (l0 : Int) (ω : am_W) (h1 : am_is ω l0 (3, 7) = true) : am_run (42, 0) 0 ([some (.inr (.inr l0)), none, none], [], ω) = am_run (42, 0) 7 ([some (.inr (.inr l0)), some (.inl 0), some (.inl (am_get ω l0.toNat 4))], [], ω) := by
  refine Eq.trans (rr_iconst rfl rfl) ?_
  refine Eq.trans (rr_istore_n (L' := [some (.inr (.inr l0)), some (.inl 0), none]) rfl rfl) ?_
  refine Eq.trans (rr_aload_n rfl rfl) ?_
  refine Eq.trans (rr_getfi rfl rfl rfl h1) ?_
  refine Eq.trans (rr_istore_n (L' := [some (.inr (.inr l0)), some (.inl 0), some (.inl (am_get ω l0.toNat 4))]) rfl rfl) ?_
  rfl
theorem pX3_numberHere_7 (l0 l1 l2 : Int) (ω : am_W) (h1 : am_is ω l0 (3, 7) = true) : am_run (42, 0) 7 ([some (.inr (.inr l0)), some (.inl l1), some (.inl l2)], [], ω) = if (am_get ω l0.toNat 5) ≤ l2 then (some (some (.inl l1), ω)) else (if (am_get ω l0.toNat 1) ≤ l2 then (some (some (.inl l1), ω)) else (if am_in ω (am_get ω l0.toNat 0) 100 l2 = true then (am_run (42, 0) 7 ([some (.inr (.inr l0)), some (.inl (am_w ((am_w ((am_w (l1 * 10)) + (am_get ω (am_get ω l0.toNat 0).toNat l2.toNat))) - 48))), some (.inl (am_w (l2 + 1)))], [], ω)) else none)) := by
  refine Eq.trans (rr_iload_n rfl rfl) ?_
  refine Eq.trans (rr_aload_n rfl rfl) ?_
  refine Eq.trans (rr_getfi rfl rfl rfl h1) ?_
  refine Eq.trans (rr_icmp_ge rfl rfl) (it_cg (fun _ => ?_) (fun _ => ?_))
  · refine Eq.trans (rr_iload_n rfl rfl) ?_
    exact rr_ireturn rfl rfl
  · refine Eq.trans (rr_iload_n rfl rfl) ?_
    refine Eq.trans (rr_aload_n rfl rfl) ?_
    refine Eq.trans (rr_getfi rfl rfl rfl h1) ?_
    refine Eq.trans (rr_icmp_ge rfl rfl) (it_cg (fun _ => ?_) (fun _ => ?_))
    · refine Eq.trans (rr_iload_n rfl rfl) ?_
      exact rr_ireturn rfl rfl
    · refine Eq.trans (rr_iload_n rfl rfl) ?_
      refine Eq.trans (rr_bipush rfl rfl) ?_
      refine Eq.trans (rr_imul rfl) ?_
      refine Eq.trans (rr_aload_n rfl rfl) ?_
      refine Eq.trans (rr_getfr rfl rfl rfl h1) ?_
      refine Eq.trans (rr_iload_n rfl rfl) ?_
      refine ck_it (fun h => rr_iaload rfl rfl h) (fun h => rr_iaload_no rfl rfl h) (fun h2 => ?_)
      refine Eq.trans (rr_iadd rfl) ?_
      refine Eq.trans (rr_bipush rfl rfl) ?_
      refine Eq.trans (rr_isub rfl) ?_
      refine Eq.trans (rr_istore_n (L' := [some (.inr (.inr l0)), some (.inl (am_w ((am_w ((am_w (l1 * 10)) + (am_get ω (am_get ω l0.toNat 0).toNat l2.toNat))) - 48))), some (.inl l2)]) rfl rfl) ?_
      refine Eq.trans (rr_iinc (L' := [some (.inr (.inr l0)), some (.inl (am_w ((am_w ((am_w (l1 * 10)) + (am_get ω (am_get ω l0.toNat 0).toNat l2.toNat))) - 48))), some (.inl (am_w (l2 + 1)))]) rfl rfl rfl) ?_
      refine Eq.trans (rr_goto rfl rfl) ?_
      rfl
theorem pX3_isWord_0 (l0 l1 : Int) (ω : am_W) (h1 : am_is ω l0 (3, 7) = true) : am_run (43, 0) 0 ([some (.inr (.inr l0)), some (.inr (.inr l1)), none], [], ω) = if ¬ (am_get ω l0.toNat 3) = 1 then (some (some (.inl 0), ω)) else (if am_txok l1 = true then (if (am_w ((am_get ω l0.toNat 5) - (am_get ω l0.toNat 4))) = ((((am_texts.getD (-3 - l1).toNat []).length : Nat) : Int)) then (am_run (43, 0) 28 ([some (.inr (.inr l0)), some (.inr (.inr l1)), some (.inl 0)], [], ω)) else (some (some (.inl 0), ω))) else none) := by
  refine Eq.trans (rr_aload_n rfl rfl) ?_
  refine Eq.trans (rr_getfi rfl rfl rfl h1) ?_
  refine Eq.trans (rr_iconst rfl rfl) ?_
  refine Eq.trans (rr_icmp_ne rfl rfl) (it_cg (fun _ => ?_) (fun _ => ?_))
  · refine Eq.trans (rr_iconst rfl rfl) ?_
    exact rr_ireturn rfl rfl
  · refine Eq.trans (rr_aload_n rfl rfl) ?_
    refine Eq.trans (rr_getfi rfl rfl rfl h1) ?_
    refine Eq.trans (rr_aload_n rfl rfl) ?_
    refine Eq.trans (rr_getfi rfl rfl rfl h1) ?_
    refine Eq.trans (rr_isub rfl) ?_
    refine Eq.trans (rr_aload_n rfl rfl) ?_
    refine ck_it (fun h => rr_slen rfl rfl rfl rfl h) (fun h => rr_slen_no rfl rfl rfl rfl h) (fun h2 => ?_)
    refine Eq.trans (rr_icmp_eq rfl rfl) (it_cg (fun _ => ?_) (fun _ => ?_))
    · refine Eq.trans (rr_iconst rfl rfl) ?_
      refine Eq.trans (rr_istore_n (L' := [some (.inr (.inr l0)), some (.inr (.inr l1)), some (.inl 0)]) rfl rfl) ?_
      rfl
    · refine Eq.trans (rr_iconst rfl rfl) ?_
      exact rr_ireturn rfl rfl
theorem pX3_isWord_28 (l0 l1 l2 : Int) (ω : am_W) (h2 : am_is ω l0 (3, 7) = true) : am_run (43, 0) 28 ([some (.inr (.inr l0)), some (.inr (.inr l1)), some (.inl l2)], [], ω) = if am_txok l1 = true then (if ((((am_texts.getD (-3 - l1).toNat []).length : Nat) : Int)) ≤ l2 then (some (some (.inl 1), ω)) else (if (am_get ω l0.toNat 1) ≤ (am_w ((am_get ω l0.toNat 4) + l2)) then (some (some (.inl 1), ω)) else (if am_in ω (am_get ω l0.toNat 0) 100 (am_w ((am_get ω l0.toNat 4) + l2)) = true then (if am_chok l1 l2 = true then (if (am_get ω (am_get ω l0.toNat 0).toNat (am_w ((am_get ω l0.toNat 4) + l2)).toNat) = ((am_texts.getD (-3 - l1).toNat []).getD l2.toNat 0) then (am_run (43, 0) 28 ([some (.inr (.inr l0)), some (.inr (.inr l1)), some (.inl (am_w (l2 + 1)))], [], ω)) else (some (some (.inl 0), ω))) else none) else none))) else none := by
  refine Eq.trans (rr_iload_n rfl rfl) ?_
  refine Eq.trans (rr_aload_n rfl rfl) ?_
  refine ck_it (fun h => rr_slen rfl rfl rfl rfl h) (fun h => rr_slen_no rfl rfl rfl rfl h) (fun h1 => ?_)
  refine Eq.trans (rr_icmp_ge rfl rfl) (it_cg (fun _ => ?_) (fun _ => ?_))
  · refine Eq.trans (rr_iconst rfl rfl) ?_
    exact rr_ireturn rfl rfl
  · refine Eq.trans (rr_aload_n rfl rfl) ?_
    refine Eq.trans (rr_getfi rfl rfl rfl h2) ?_
    refine Eq.trans (rr_iload_n rfl rfl) ?_
    refine Eq.trans (rr_iadd rfl) ?_
    refine Eq.trans (rr_aload_n rfl rfl) ?_
    refine Eq.trans (rr_getfi rfl rfl rfl h2) ?_
    refine Eq.trans (rr_icmp_ge rfl rfl) (it_cg (fun _ => ?_) (fun _ => ?_))
    · refine Eq.trans (rr_iconst rfl rfl) ?_
      exact rr_ireturn rfl rfl
    · refine Eq.trans (rr_aload_n rfl rfl) ?_
      refine Eq.trans (rr_getfr rfl rfl rfl h2) ?_
      refine Eq.trans (rr_aload_n rfl rfl) ?_
      refine Eq.trans (rr_getfi rfl rfl rfl h2) ?_
      refine Eq.trans (rr_iload_n rfl rfl) ?_
      refine Eq.trans (rr_iadd rfl) ?_
      refine ck_it (fun h => rr_iaload rfl rfl h) (fun h => rr_iaload_no rfl rfl h) (fun h3 => ?_)
      refine Eq.trans (rr_aload_n rfl rfl) ?_
      refine Eq.trans (rr_iload_n rfl rfl) ?_
      refine ck_it (fun h => rr_schr rfl rfl rfl rfl h) (fun h => rr_schr_no rfl rfl rfl rfl h) (fun h4 => ?_)
      refine Eq.trans (rr_icmp_eq rfl rfl) (it_cg (fun _ => ?_) (fun _ => ?_))
      · refine Eq.trans (rr_iinc (L' := [some (.inr (.inr l0)), some (.inr (.inr l1)), some (.inl (am_w (l2 + 1)))]) rfl rfl rfl) ?_
        refine Eq.trans (rr_goto rfl rfl) ?_
        rfl
      · refine Eq.trans (rr_iconst rfl rfl) ?_
        exact rr_ireturn rfl rfl
theorem pX3_takeToken_0 (l0 : Int) (ω : am_W) (h1 : am_is ω l0 (3, 7) = true) : am_run (44, 0) 0 ([some (.inr (.inr l0)), none, none], [], ω) = am_run (44, 0) 5 ([some (.inr (.inr l0)), some (.inl (am_get ω l0.toNat 5)), none], [], ω) := by
  refine Eq.trans (rr_aload_n rfl rfl) ?_
  refine Eq.trans (rr_getfi rfl rfl rfl h1) ?_
  refine Eq.trans (rr_istore_n (L' := [some (.inr (.inr l0)), some (.inl (am_get ω l0.toNat 5)), none]) rfl rfl) ?_
  rfl
theorem pX3_takeToken_5 (l0 l1 : Int) (o2 : Option am_V) (ω : am_W) (h1 : am_is ω l0 (3, 7) = true) : am_run (44, 0) 5 ([some (.inr (.inr l0)), some (.inl l1), o2], [], ω) = if (am_get ω l0.toNat 1) ≤ l1 then (am_run (44, 0) 30 ([some (.inr (.inr l0)), some (.inl l1), o2], [], ω)) else (if am_in ω (am_get ω l0.toNat 0) 100 l1 = true then (if ¬ (am_get ω (am_get ω l0.toNat 0).toNat l1.toNat) = 32 then (am_run (44, 0) 30 ([some (.inr (.inr l0)), some (.inl l1), o2], [], ω)) else (am_run (44, 0) 5 ([some (.inr (.inr l0)), some (.inl (am_w (l1 + 1))), o2], [], ω))) else none) := by
  refine Eq.trans (rr_iload_n rfl rfl) ?_
  refine Eq.trans (rr_aload_n rfl rfl) ?_
  refine Eq.trans (rr_getfi rfl rfl rfl h1) ?_
  refine Eq.trans (rr_icmp_ge rfl rfl) (it_cg (fun _ => ?_) (fun _ => ?_))
  · rfl
  · refine Eq.trans (rr_aload_n rfl rfl) ?_
    refine Eq.trans (rr_getfr rfl rfl rfl h1) ?_
    refine Eq.trans (rr_iload_n rfl rfl) ?_
    refine ck_it (fun h => rr_iaload rfl rfl h) (fun h => rr_iaload_no rfl rfl h) (fun h2 => ?_)
    refine Eq.trans (rr_bipush rfl rfl) ?_
    refine Eq.trans (rr_icmp_ne rfl rfl) (it_cg (fun _ => ?_) (fun _ => ?_))
    · rfl
    · refine Eq.trans (rr_iinc (L' := [some (.inr (.inr l0)), some (.inl (am_w (l1 + 1))), o2]) rfl rfl rfl) ?_
      refine Eq.trans (rr_goto rfl rfl) ?_
      rfl
theorem pX3_takeToken_30 (l0 l1 : Int) (o2 : Option am_V) (ω : am_W) (h1 : am_is ω l0 (3, 7) = true) : am_run (44, 0) 30 ([some (.inr (.inr l0)), some (.inl l1), o2], [], ω) = am_bi (am_run (45, 0) 0 ([some (.inr (.inr l0)), some (.inl l1), none], [], am_put ω l0.toNat 4 l1)) (fun z1 ω1 => if am_is ω1 l0 (3, 7) = true then (if (am_get (am_put ω1 l0.toNat 3 z1) l0.toNat 3) = 1 then (am_run (44, 0) 69 ([some (.inr (.inr l0)), some (.inl (am_w (l1 + 1))), some (.inl 1)], [], am_put ω1 l0.toNat 3 z1)) else (if ¬ (am_get (am_put ω1 l0.toNat 3 z1) l0.toNat 3) = 2 then (am_run (44, 0) 69 ([some (.inr (.inr l0)), some (.inl (am_w (l1 + 1))), some (.inl 0)], [], am_put ω1 l0.toNat 3 z1)) else (am_run (44, 0) 69 ([some (.inr (.inr l0)), some (.inl (am_w (l1 + 1))), some (.inl 1)], [], am_put ω1 l0.toNat 3 z1)))) else none) := by
  refine Eq.trans (rr_aload_n rfl rfl) ?_
  refine Eq.trans (rr_iload_n rfl rfl) ?_
  refine Eq.trans (rr_putfieldi rfl rfl rfl h1) ?_
  refine Eq.trans (rr_aload_n rfl rfl) ?_
  refine Eq.trans (rr_aload_n rfl rfl) ?_
  refine Eq.trans (rr_iload_n rfl rfl) ?_
  refine Eq.trans (rr_invV0i (S' := [.inr (.inr l0)]) (L' := [some (.inr (.inr l0)), some (.inl l1), none]) (m' := (45, 0)) rfl rfl rfl rfl rfl rfl h1) ?_
  refine bi_cg (fun z1 ω1 => ?_)
  refine ck_it (fun h => rr_putfieldi rfl rfl rfl h) (fun h => rr_putfieldi_no rfl rfl h) (fun h2 => ?_)
  refine Eq.trans (rr_aload_n rfl rfl) ?_
  refine Eq.trans (rr_getfi rfl rfl rfl h2) ?_
  refine Eq.trans (rr_iconst rfl rfl) ?_
  refine Eq.trans (rr_icmp_eq rfl rfl) (it_cg (fun _ => ?_) (fun _ => ?_))
  · refine Eq.trans (rr_iconst rfl rfl) ?_
    refine Eq.trans (rr_goto rfl rfl) ?_
    refine Eq.trans (rr_istore_n (L' := [some (.inr (.inr l0)), some (.inl l1), some (.inl 1)]) rfl rfl) ?_
    refine Eq.trans (rr_iinc (L' := [some (.inr (.inr l0)), some (.inl (am_w (l1 + 1))), some (.inl 1)]) rfl rfl rfl) ?_
    rfl
  · refine Eq.trans (rr_aload_n rfl rfl) ?_
    refine Eq.trans (rr_getfi rfl rfl rfl h2) ?_
    refine Eq.trans (rr_iconst rfl rfl) ?_
    refine Eq.trans (rr_icmp_ne rfl rfl) (it_cg (fun _ => ?_) (fun _ => ?_))
    · refine Eq.trans (rr_iconst rfl rfl) ?_
      refine Eq.trans (rr_istore_n (L' := [some (.inr (.inr l0)), some (.inl l1), some (.inl 0)]) rfl rfl) ?_
      refine Eq.trans (rr_iinc (L' := [some (.inr (.inr l0)), some (.inl (am_w (l1 + 1))), some (.inl 0)]) rfl rfl rfl) ?_
      rfl
    · refine Eq.trans (rr_iconst rfl rfl) ?_
      refine Eq.trans (rr_goto rfl rfl) ?_
      refine Eq.trans (rr_istore_n (L' := [some (.inr (.inr l0)), some (.inl l1), some (.inl 1)]) rfl rfl) ?_
      refine Eq.trans (rr_iinc (L' := [some (.inr (.inr l0)), some (.inl (am_w (l1 + 1))), some (.inl 1)]) rfl rfl rfl) ?_
      rfl
theorem pX3_takeToken_69 (l0 l1 l2 : Int) (ω : am_W) (h1 : am_is ω l0 (3, 7) = true) : am_run (44, 0) 69 ([some (.inr (.inr l0)), some (.inl l1), some (.inl l2)], [], ω) = if l2 = 0 then (am_bi (am_run (237, 0) 0 ([some (.inl l1), some (.inl (am_get ω l0.toNat 1))], [], ω)) (fun z1 ω1 => if am_is ω1 l0 (3, 7) = true then (some (none, am_put ω1 l0.toNat 5 z1)) else none)) else (if (am_get ω l0.toNat 1) ≤ l1 then (am_bi (am_run (237, 0) 0 ([some (.inl l1), some (.inl (am_get ω l0.toNat 1))], [], ω)) (fun z2 ω2 => if am_is ω2 l0 (3, 7) = true then (some (none, am_put ω2 l0.toNat 5 z2)) else none)) else (am_bi (am_run (45, 0) 0 ([some (.inr (.inr l0)), some (.inl l1), none], [], ω)) (fun z3 ω3 => if am_is ω3 l0 (3, 7) = true then (if ¬ z3 = (am_get ω3 l0.toNat 3) then (am_bi (am_run (237, 0) 0 ([some (.inl l1), some (.inl (am_get ω3 l0.toNat 1))], [], ω3)) (fun z4 ω4 => if am_is ω4 l0 (3, 7) = true then (some (none, am_put ω4 l0.toNat 5 z4)) else none)) else (am_run (44, 0) 69 ([some (.inr (.inr l0)), some (.inl (am_w (l1 + 1))), some (.inl l2)], [], ω3))) else none))) := by
  refine Eq.trans (rr_iload_n rfl rfl) ?_
  refine Eq.trans (rr_if_eq rfl rfl) (it_cg (fun _ => ?_) (fun _ => ?_))
  · refine Eq.trans (rr_aload_n rfl rfl) ?_
    refine Eq.trans (rr_iload_n rfl rfl) ?_
    refine Eq.trans (rr_aload_n rfl rfl) ?_
    refine Eq.trans (rr_getfi rfl rfl rfl h1) ?_
    refine Eq.trans (rr_invS2i (S' := [.inr (.inr l0)]) (L' := [some (.inl l1), some (.inl (am_get ω l0.toNat 1))]) (m' := (237, 0)) rfl rfl rfl rfl rfl rfl) ?_
    refine bi_cg (fun z1 ω1 => ?_)
    refine ck_it (fun h => rr_putfieldi rfl rfl rfl h) (fun h => rr_putfieldi_no rfl rfl h) (fun h2 => ?_)
    exact rr_return rfl rfl
  · refine Eq.trans (rr_iload_n rfl rfl) ?_
    refine Eq.trans (rr_aload_n rfl rfl) ?_
    refine Eq.trans (rr_getfi rfl rfl rfl h1) ?_
    refine Eq.trans (rr_icmp_ge rfl rfl) (it_cg (fun _ => ?_) (fun _ => ?_))
    · refine Eq.trans (rr_aload_n rfl rfl) ?_
      refine Eq.trans (rr_iload_n rfl rfl) ?_
      refine Eq.trans (rr_aload_n rfl rfl) ?_
      refine Eq.trans (rr_getfi rfl rfl rfl h1) ?_
      refine Eq.trans (rr_invS2i (S' := [.inr (.inr l0)]) (L' := [some (.inl l1), some (.inl (am_get ω l0.toNat 1))]) (m' := (237, 0)) rfl rfl rfl rfl rfl rfl) ?_
      refine bi_cg (fun z2 ω2 => ?_)
      refine ck_it (fun h => rr_putfieldi rfl rfl rfl h) (fun h => rr_putfieldi_no rfl rfl h) (fun h3 => ?_)
      exact rr_return rfl rfl
    · refine Eq.trans (rr_aload_n rfl rfl) ?_
      refine Eq.trans (rr_iload_n rfl rfl) ?_
      refine Eq.trans (rr_invV0i (S' := []) (L' := [some (.inr (.inr l0)), some (.inl l1), none]) (m' := (45, 0)) rfl rfl rfl rfl rfl rfl h1) ?_
      refine bi_cg (fun z3 ω3 => ?_)
      refine Eq.trans (rr_aload_n rfl rfl) ?_
      refine ck_it (fun h => rr_getfi rfl rfl rfl h) (fun h => rr_getfield_no rfl rfl h) (fun h4 => ?_)
      refine Eq.trans (rr_icmp_ne rfl rfl) (it_cg (fun _ => ?_) (fun _ => ?_))
      · refine Eq.trans (rr_aload_n rfl rfl) ?_
        refine Eq.trans (rr_iload_n rfl rfl) ?_
        refine Eq.trans (rr_aload_n rfl rfl) ?_
        refine Eq.trans (rr_getfi rfl rfl rfl h4) ?_
        refine Eq.trans (rr_invS2i (S' := [.inr (.inr l0)]) (L' := [some (.inl l1), some (.inl (am_get ω3 l0.toNat 1))]) (m' := (237, 0)) rfl rfl rfl rfl rfl rfl) ?_
        refine bi_cg (fun z4 ω4 => ?_)
        refine ck_it (fun h => rr_putfieldi rfl rfl rfl h) (fun h => rr_putfieldi_no rfl rfl h) (fun h5 => ?_)
        exact rr_return rfl rfl
      · refine Eq.trans (rr_iinc (L' := [some (.inr (.inr l0)), some (.inl (am_w (l1 + 1))), some (.inl l2)]) rfl rfl rfl) ?_
        refine Eq.trans (rr_goto rfl rfl) ?_
        rfl
theorem pX3_sortAt_0 (l0 l1 : Int) (ω : am_W) (h1 : am_is ω l0 (3, 7) = true) : am_run (45, 0) 0 ([some (.inr (.inr l0)), some (.inl l1), none], [], ω) = if l1 < 0 then (some (some (.inl 0), ω)) else (if l1 < (am_get ω l0.toNat 1) then (if am_in ω (am_get ω l0.toNat 0) 100 l1 = true then (if (am_get ω (am_get ω l0.toNat 0).toNat l1.toNat) < 97 then (am_run (45, 0) 35 ([some (.inr (.inr l0)), some (.inl l1), some (.inl (am_get ω (am_get ω l0.toNat 0).toNat l1.toNat))], [], ω)) else (if 122 < (am_get ω (am_get ω l0.toNat 0).toNat l1.toNat) then (am_run (45, 0) 35 ([some (.inr (.inr l0)), some (.inl l1), some (.inl (am_get ω (am_get ω l0.toNat 0).toNat l1.toNat))], [], ω)) else (some (some (.inl 1), ω)))) else none) else (some (some (.inl 0), ω))) := by
  refine Eq.trans (rr_iload_n rfl rfl) ?_
  refine Eq.trans (rr_if_lt rfl rfl) (it_cg (fun _ => ?_) (fun _ => ?_))
  · refine Eq.trans (rr_iconst rfl rfl) ?_
    exact rr_ireturn rfl rfl
  · refine Eq.trans (rr_iload_n rfl rfl) ?_
    refine Eq.trans (rr_aload_n rfl rfl) ?_
    refine Eq.trans (rr_getfi rfl rfl rfl h1) ?_
    refine Eq.trans (rr_icmp_lt rfl rfl) (it_cg (fun _ => ?_) (fun _ => ?_))
    · refine Eq.trans (rr_aload_n rfl rfl) ?_
      refine Eq.trans (rr_getfr rfl rfl rfl h1) ?_
      refine Eq.trans (rr_iload_n rfl rfl) ?_
      refine ck_it (fun h => rr_iaload rfl rfl h) (fun h => rr_iaload_no rfl rfl h) (fun h2 => ?_)
      refine Eq.trans (rr_istore_n (L' := [some (.inr (.inr l0)), some (.inl l1), some (.inl (am_get ω (am_get ω l0.toNat 0).toNat l1.toNat))]) rfl rfl) ?_
      refine Eq.trans (rr_iload_n rfl rfl) ?_
      refine Eq.trans (rr_bipush rfl rfl) ?_
      refine Eq.trans (rr_icmp_lt rfl rfl) (it_cg (fun _ => ?_) (fun _ => ?_))
      · rfl
      · refine Eq.trans (rr_iload_n rfl rfl) ?_
        refine Eq.trans (rr_bipush rfl rfl) ?_
        refine Eq.trans (rr_icmp_gt rfl rfl) (it_cg (fun _ => ?_) (fun _ => ?_))
        · rfl
        · refine Eq.trans (rr_iconst rfl rfl) ?_
          exact rr_ireturn rfl rfl
    · refine Eq.trans (rr_iconst rfl rfl) ?_
      exact rr_ireturn rfl rfl
theorem pX3_sortAt_35 (l0 l1 l2 : Int) (ω : am_W) : am_run (45, 0) 35 ([some (.inr (.inr l0)), some (.inl l1), some (.inl l2)], [], ω) = if l2 < 48 then (if ¬ l2 = 59 then (some (some (.inl 4), ω)) else (some (some (.inl 3), ω))) else (if 57 < l2 then (if ¬ l2 = 59 then (some (some (.inl 4), ω)) else (some (some (.inl 3), ω))) else (some (some (.inl 2), ω))) := by
  refine Eq.trans (rr_iload_n rfl rfl) ?_
  refine Eq.trans (rr_bipush rfl rfl) ?_
  refine Eq.trans (rr_icmp_lt rfl rfl) (it_cg (fun _ => ?_) (fun _ => ?_))
  · refine Eq.trans (rr_iload_n rfl rfl) ?_
    refine Eq.trans (rr_bipush rfl rfl) ?_
    refine Eq.trans (rr_icmp_ne rfl rfl) (it_cg (fun _ => ?_) (fun _ => ?_))
    · refine Eq.trans (rr_iconst rfl rfl) ?_
      exact rr_ireturn rfl rfl
    · refine Eq.trans (rr_iconst rfl rfl) ?_
      refine Eq.trans (rr_goto rfl rfl) ?_
      exact rr_ireturn rfl rfl
  · refine Eq.trans (rr_iload_n rfl rfl) ?_
    refine Eq.trans (rr_bipush rfl rfl) ?_
    refine Eq.trans (rr_icmp_gt rfl rfl) (it_cg (fun _ => ?_) (fun _ => ?_))
    · refine Eq.trans (rr_iload_n rfl rfl) ?_
      refine Eq.trans (rr_bipush rfl rfl) ?_
      refine Eq.trans (rr_icmp_ne rfl rfl) (it_cg (fun _ => ?_) (fun _ => ?_))
      · refine Eq.trans (rr_iconst rfl rfl) ?_
        exact rr_ireturn rfl rfl
      · refine Eq.trans (rr_iconst rfl rfl) ?_
        refine Eq.trans (rr_goto rfl rfl) ?_
        exact rr_ireturn rfl rfl
    · refine Eq.trans (rr_iconst rfl rfl) ?_
      exact rr_ireturn rfl rfl
