theorem pX7_moves_0 (l0 l1 l2 : Int) (ω : am_W) (h1 : am_is ω l0 (7, 30) = true) : am_run (190, 0) 0 ([some (.inr (.inr l0)), some (.inl l1), some (.inl l2), none, none], [], ω) = if am_in ω (am_get ω l0.toNat 8) 100 l1 = true then (if ¬ l2 = 1 then (am_run (190, 0) 21 ([some (.inr (.inr l0)), some (.inl l1), some (.inl l2), some (.inl (am_get ω (am_get ω l0.toNat 8).toNat l1.toNat)), none], [.inl (am_w ((am_get ω (am_get ω l0.toNat 8).toNat l1.toNat) - 1))], ω)) else (am_run (190, 0) 21 ([some (.inr (.inr l0)), some (.inl l1), some (.inl l2), some (.inl (am_get ω (am_get ω l0.toNat 8).toNat l1.toNat)), none], [.inl (am_w ((am_get ω (am_get ω l0.toNat 8).toNat l1.toNat) + 1))], ω))) else none := by
  refine Eq.trans (rr_aload_n rfl rfl) ?_
  refine Eq.trans (rr_getfr rfl rfl rfl h1) ?_
  refine Eq.trans (rr_iload_n rfl rfl) ?_
  refine ck_it (fun h => rr_iaload rfl rfl h) (fun h => rr_iaload_no rfl rfl h) (fun h2 => ?_)
  refine Eq.trans (rr_istore_n (L' := [some (.inr (.inr l0)), some (.inl l1), some (.inl l2), some (.inl (am_get ω (am_get ω l0.toNat 8).toNat l1.toNat)), none]) rfl rfl) ?_
  refine Eq.trans (rr_iload_n rfl rfl) ?_
  refine Eq.trans (rr_iconst rfl rfl) ?_
  refine Eq.trans (rr_icmp_ne rfl rfl) (it_cg (fun _ => ?_) (fun _ => ?_))
  · refine Eq.trans (rr_iload_n rfl rfl) ?_
    refine Eq.trans (rr_iconst rfl rfl) ?_
    refine Eq.trans (rr_isub rfl) ?_
    rfl
  · refine Eq.trans (rr_iload_n rfl rfl) ?_
    refine Eq.trans (rr_iconst rfl rfl) ?_
    refine Eq.trans (rr_iadd rfl) ?_
    refine Eq.trans (rr_goto rfl rfl) ?_
    rfl
theorem pX7_moves_21 (l0 l1 l2 l3 s0 : Int) (o4 : Option am_V) (ω : am_W) (h1 : am_is ω l0 (7, 30) = true) : am_run (190, 0) 21 ([some (.inr (.inr l0)), some (.inl l1), some (.inl l2), some (.inl l3), o4], [.inl s0], ω) = if am_in ω (am_get ω l0.toNat 4) 100 l3 = true then (am_bi (am_run (185, 0) 0 ([some (.inl (am_get ω (am_get ω l0.toNat 4).toNat l3.toNat))], [], ω)) (fun z1 ω1 => if am_in ω1 (am_get ω l0.toNat 11) 100 l1 = true then (if am_is (am_put ω1 (am_get ω l0.toNat 11).toNat l1.toNat z1) l0 (7, 30) = true then (if am_in (am_put ω1 (am_get ω l0.toNat 11).toNat l1.toNat z1) (am_get (am_put ω1 (am_get ω l0.toNat 11).toNat l1.toNat z1) l0.toNat 9) 100 l1 = true then (am_bi (am_run (186, 0) 0 ([some (.inr (.inr l0)), some (.inl (am_get (am_put ω1 (am_get ω l0.toNat 11).toNat l1.toNat z1) (am_get (am_put ω1 (am_get ω l0.toNat 11).toNat l1.toNat z1) l0.toNat 9).toNat l1.toNat)), some (.inl l3), some (.inl s0)], [], am_put ω1 (am_get ω l0.toNat 11).toNat l1.toNat z1)) (fun z2 ω2 => if am_in ω2 (am_get (am_put ω1 (am_get ω l0.toNat 11).toNat l1.toNat z1) l0.toNat 9) 100 l1 = true then (if am_is (am_put ω2 (am_get (am_put ω1 (am_get ω l0.toNat 11).toNat l1.toNat z1) l0.toNat 9).toNat l1.toNat z2) l0 (7, 30) = true then (if am_in (am_put ω2 (am_get (am_put ω1 (am_get ω l0.toNat 11).toNat l1.toNat z1) l0.toNat 9).toNat l1.toNat z2) (am_get (am_put ω2 (am_get (am_put ω1 (am_get ω l0.toNat 11).toNat l1.toNat z1) l0.toNat 9).toNat l1.toNat z2) l0.toNat 8) 100 l1 = true then (some (none, am_put (am_put ω2 (am_get (am_put ω1 (am_get ω l0.toNat 11).toNat l1.toNat z1) l0.toNat 9).toNat l1.toNat z2) (am_get (am_put ω2 (am_get (am_put ω1 (am_get ω l0.toNat 11).toNat l1.toNat z1) l0.toNat 9).toNat l1.toNat z2) l0.toNat 8).toNat l1.toNat s0)) else none) else none) else none)) else none) else none) else none)) else none := by
  refine Eq.trans (rr_istore (L' := [some (.inr (.inr l0)), some (.inl l1), some (.inl l2), some (.inl l3), some (.inl s0)]) rfl rfl) ?_
  refine Eq.trans (rr_aload_n rfl rfl) ?_
  refine Eq.trans (rr_getfr rfl rfl rfl h1) ?_
  refine Eq.trans (rr_iload_n rfl rfl) ?_
  refine Eq.trans (rr_aload_n rfl rfl) ?_
  refine Eq.trans (rr_getfr rfl rfl rfl h1) ?_
  refine Eq.trans (rr_iload_n rfl rfl) ?_
  refine ck_it (fun h => rr_iaload rfl rfl h) (fun h => rr_iaload_no rfl rfl h) (fun h2 => ?_)
  refine Eq.trans (rr_invS2i (S' := [.inl l1, .inr (.inr (am_get ω l0.toNat 11))]) (L' := [some (.inl (am_get ω (am_get ω l0.toNat 4).toNat l3.toNat))]) (m' := (185, 0)) rfl rfl rfl rfl rfl rfl) ?_
  refine bi_cg (fun z1 ω1 => ?_)
  refine ck_it (fun h => rr_iastore rfl h) (fun h => rr_iastore_no rfl h) (fun h3 => ?_)
  refine Eq.trans (rr_aload_n rfl rfl) ?_
  refine ck_it (fun h => rr_getfr rfl rfl rfl h) (fun h => rr_getfield_no rfl rfl h) (fun h4 => ?_)
  refine Eq.trans (rr_iload_n rfl rfl) ?_
  refine Eq.trans (rr_aload_n rfl rfl) ?_
  refine Eq.trans (rr_aload_n rfl rfl) ?_
  refine Eq.trans (rr_getfr rfl rfl rfl h4) ?_
  refine Eq.trans (rr_iload_n rfl rfl) ?_
  refine ck_it (fun h => rr_iaload rfl rfl h) (fun h => rr_iaload_no rfl rfl h) (fun h5 => ?_)
  refine Eq.trans (rr_iload_n rfl rfl) ?_
  refine Eq.trans (rr_iload rfl rfl) ?_
  refine Eq.trans (rr_invV0i (S' := [.inl l1, .inr (.inr (am_get (am_put ω1 (am_get ω l0.toNat 11).toNat l1.toNat z1) l0.toNat 9))]) (L' := [some (.inr (.inr l0)), some (.inl (am_get (am_put ω1 (am_get ω l0.toNat 11).toNat l1.toNat z1) (am_get (am_put ω1 (am_get ω l0.toNat 11).toNat l1.toNat z1) l0.toNat 9).toNat l1.toNat)), some (.inl l3), some (.inl s0)]) (m' := (186, 0)) rfl rfl rfl rfl rfl rfl h4) ?_
  refine bi_cg (fun z2 ω2 => ?_)
  refine ck_it (fun h => rr_iastore rfl h) (fun h => rr_iastore_no rfl h) (fun h6 => ?_)
  refine Eq.trans (rr_aload_n rfl rfl) ?_
  refine ck_it (fun h => rr_getfr rfl rfl rfl h) (fun h => rr_getfield_no rfl rfl h) (fun h7 => ?_)
  refine Eq.trans (rr_iload_n rfl rfl) ?_
  refine Eq.trans (rr_iload rfl rfl) ?_
  refine ck_it (fun h => rr_iastore rfl h) (fun h => rr_iastore_no rfl h) (fun h8 => ?_)
  exact rr_return rfl rfl
theorem pX7_acts_0 (l0 l1 l2 : Int) (ω : am_W) (h1 : am_is ω l0 (7, 30) = true) : am_run (191, 0) 0 ([some (.inr (.inr l0)), some (.inl l1), some (.inl l2)], [], ω) = if ¬ l2 = 0 then (if am_in ω (am_get ω l0.toNat 10) 100 l1 = true then (am_bi (am_run (188, 0) 0 ([some (.inr (.inr l0)), some (.inl l1), some (.inl l2)], [], ω)) (fun z1 ω1 => if am_in ω1 (am_get ω l0.toNat 10) 100 l1 = true then (if am_is (am_put ω1 (am_get ω l0.toNat 10).toNat l1.toNat (am_w ((am_get ω (am_get ω l0.toNat 10).toNat l1.toNat) - z1))) l0 (7, 30) = true then (am_bv (am_run (190, 0) 0 ([some (.inr (.inr l0)), some (.inl l1), some (.inl l2), none, none], [], am_put ω1 (am_get ω l0.toNat 10).toNat l1.toNat (am_w ((am_get ω (am_get ω l0.toNat 10).toNat l1.toNat) - z1)))) (fun ω2 => some (none, ω2))) else none) else none)) else none) else (some (none, ω)) := by
  refine Eq.trans (rr_iload_n rfl rfl) ?_
  refine Eq.trans (rr_if_ne rfl rfl) (it_cg (fun _ => ?_) (fun _ => ?_))
  · refine Eq.trans (rr_aload_n rfl rfl) ?_
    refine Eq.trans (rr_getfr rfl rfl rfl h1) ?_
    refine Eq.trans (rr_iload_n rfl rfl) ?_
    refine Eq.trans (rr_dup2 rfl) ?_
    refine ck_it (fun h => rr_iaload rfl rfl h) (fun h => rr_iaload_no rfl rfl h) (fun h2 => ?_)
    refine Eq.trans (rr_aload_n rfl rfl) ?_
    refine Eq.trans (rr_iload_n rfl rfl) ?_
    refine Eq.trans (rr_iload_n rfl rfl) ?_
    refine Eq.trans (rr_invV0i (S' := [.inl (am_get ω (am_get ω l0.toNat 10).toNat l1.toNat), .inl l1, .inr (.inr (am_get ω l0.toNat 10))]) (L' := [some (.inr (.inr l0)), some (.inl l1), some (.inl l2)]) (m' := (188, 0)) rfl rfl rfl rfl rfl rfl h1) ?_
    refine bi_cg (fun z1 ω1 => ?_)
    refine Eq.trans (rr_isub rfl) ?_
    refine ck_it (fun h => rr_iastore rfl h) (fun h => rr_iastore_no rfl h) (fun h3 => ?_)
    refine Eq.trans (rr_aload_n rfl rfl) ?_
    refine Eq.trans (rr_iload_n rfl rfl) ?_
    refine Eq.trans (rr_iload_n rfl rfl) ?_
    refine ck_it (fun h => rr_invV0v (S' := []) (L' := [some (.inr (.inr l0)), some (.inl l1), some (.inl l2), none, none]) (m' := (190, 0)) rfl rfl rfl rfl rfl rfl h) (fun h => rr_invV0_no (S' := []) (L' := [some (.inr (.inr l0)), some (.inl l1), some (.inl l2), none, none]) (m' := (190, 0)) rfl rfl rfl rfl rfl rfl h) (fun h4 => ?_)
    refine bv_cg (fun ω2 => ?_)
    exact rr_return rfl rfl
  · exact rr_return rfl rfl
theorem pX7_can_0 (l0 l1 l2 : Int) (ω : am_W) (h1 : am_is ω l0 (7, 30) = true) : am_run (192, 0) 0 ([some (.inr (.inr l0)), some (.inl l1), some (.inl l2)], [], ω) = am_bi (am_run (151, 0) 0 ([some (.inr (.inr l0)), some (.inl l1)], [], ω)) (fun z1 ω1 => if z1 = 0 then (if am_is ω1 l0 (7, 30) = true then (am_bi (am_run (148, 0) 0 ([some (.inr (.inr l0)), some (.inl ((-2)))], [], ω1)) (fun z2 ω2 => some (some (.inl z2), ω2))) else none) else (am_bi (am_run (149, 0) 0 ([some (.inl l2), some (.inl 1), some (.inl 2)], [], ω1)) (fun z3 ω3 => if ¬ z3 = 0 then (if am_is ω3 l0 (7, 30) = true then (am_bi (am_run (189, 0) 0 ([some (.inr (.inr l0)), some (.inl l1), some (.inl l2)], [], ω3)) (fun z4 ω4 => if z4 = 0 then (some (some (.inl ((-1))), ω4)) else (if am_is ω4 l0 (7, 30) = true then (am_bi (am_run (188, 0) 0 ([some (.inr (.inr l0)), some (.inl l1), some (.inl l2)], [], ω4)) (fun z5 ω5 => some (some (.inl z5), ω5))) else none))) else none) else (if am_is ω3 l0 (7, 30) = true then (am_bi (am_run (148, 0) 0 ([some (.inr (.inr l0)), some (.inl ((-2)))], [], ω3)) (fun z6 ω6 => some (some (.inl z6), ω6))) else none)))) := by
  refine Eq.trans (rr_aload_n rfl rfl) ?_
  refine Eq.trans (rr_iload_n rfl rfl) ?_
  refine Eq.trans (rr_invV0i (S' := []) (L' := [some (.inr (.inr l0)), some (.inl l1)]) (m' := (151, 0)) rfl rfl rfl rfl rfl rfl h1) ?_
  refine bi_cg (fun z1 ω1 => ?_)
  refine Eq.trans (rr_if_eq rfl rfl) (it_cg (fun _ => ?_) (fun _ => ?_))
  · refine Eq.trans (rr_aload_n rfl rfl) ?_
    refine Eq.trans (rr_bipush rfl rfl) ?_
    refine ck_it (fun h => rr_invV0i (S' := []) (L' := [some (.inr (.inr l0)), some (.inl ((-2)))]) (m' := (148, 0)) rfl rfl rfl rfl rfl rfl h) (fun h => rr_invV0_no (S' := []) (L' := [some (.inr (.inr l0)), some (.inl ((-2)))]) (m' := (148, 0)) rfl rfl rfl rfl rfl rfl h) (fun h2 => ?_)
    refine bi_cg (fun z2 ω2 => ?_)
    exact rr_ireturn rfl rfl
  · refine Eq.trans (rr_iload_n rfl rfl) ?_
    refine Eq.trans (rr_iconst rfl rfl) ?_
    refine Eq.trans (rr_iconst rfl rfl) ?_
    refine Eq.trans (rr_invS2i (S' := []) (L' := [some (.inl l2), some (.inl 1), some (.inl 2)]) (m' := (149, 0)) rfl rfl rfl rfl rfl rfl) ?_
    refine bi_cg (fun z3 ω3 => ?_)
    refine Eq.trans (rr_if_ne rfl rfl) (it_cg (fun _ => ?_) (fun _ => ?_))
    · refine Eq.trans (rr_aload_n rfl rfl) ?_
      refine Eq.trans (rr_iload_n rfl rfl) ?_
      refine Eq.trans (rr_iload_n rfl rfl) ?_
      refine ck_it (fun h => rr_invV0i (S' := []) (L' := [some (.inr (.inr l0)), some (.inl l1), some (.inl l2)]) (m' := (189, 0)) rfl rfl rfl rfl rfl rfl h) (fun h => rr_invV0_no (S' := []) (L' := [some (.inr (.inr l0)), some (.inl l1), some (.inl l2)]) (m' := (189, 0)) rfl rfl rfl rfl rfl rfl h) (fun h3 => ?_)
      refine bi_cg (fun z4 ω4 => ?_)
      refine Eq.trans (rr_if_eq rfl rfl) (it_cg (fun _ => ?_) (fun _ => ?_))
      · refine Eq.trans (rr_iconst rfl rfl) ?_
        exact rr_ireturn rfl rfl
      · refine Eq.trans (rr_aload_n rfl rfl) ?_
        refine Eq.trans (rr_iload_n rfl rfl) ?_
        refine Eq.trans (rr_iload_n rfl rfl) ?_
        refine ck_it (fun h => rr_invV0i (S' := []) (L' := [some (.inr (.inr l0)), some (.inl l1), some (.inl l2)]) (m' := (188, 0)) rfl rfl rfl rfl rfl rfl h) (fun h => rr_invV0_no (S' := []) (L' := [some (.inr (.inr l0)), some (.inl l1), some (.inl l2)]) (m' := (188, 0)) rfl rfl rfl rfl rfl rfl h) (fun h4 => ?_)
        refine bi_cg (fun z5 ω5 => ?_)
        refine Eq.trans (rr_goto rfl rfl) ?_
        exact rr_ireturn rfl rfl
    · refine Eq.trans (rr_aload_n rfl rfl) ?_
      refine Eq.trans (rr_bipush rfl rfl) ?_
      refine ck_it (fun h => rr_invV0i (S' := []) (L' := [some (.inr (.inr l0)), some (.inl ((-2)))]) (m' := (148, 0)) rfl rfl rfl rfl rfl rfl h) (fun h => rr_invV0_no (S' := []) (L' := [some (.inr (.inr l0)), some (.inl ((-2)))]) (m' := (148, 0)) rfl rfl rfl rfl rfl rfl h) (fun h5 => ?_)
      refine bi_cg (fun z6 ω6 => ?_)
      exact rr_ireturn rfl rfl
theorem pX7_behind_0 (l0 l1 l2 l3 : Int) (ω : am_W) (h1 : am_is ω l0 (7, 30) = true) : am_run (193, 0) 0 ([some (.inr (.inr l0)), some (.inl l1), some (.inl l2), some (.inl l3), none, none], [], ω) = am_bi (am_run (151, 0) 0 ([some (.inr (.inr l0)), some (.inl l1)], [], ω)) (fun z1 ω1 => if z1 = 0 then (if am_is ω1 l0 (7, 30) = true then (am_bi (am_run (148, 0) 0 ([some (.inr (.inr l0)), some (.inl ((-2)))], [], ω1)) (fun z2 ω2 => some (some (.inl z2), ω2))) else none) else (am_bi (am_run (149, 0) 0 ([some (.inl l2), some (.inl 0), some (.inl 400)], [], ω1)) (fun z3 ω3 => if z3 = 0 then (if am_is ω3 l0 (7, 30) = true then (am_bi (am_run (148, 0) 0 ([some (.inr (.inr l0)), some (.inl ((-2)))], [], ω3)) (fun z4 ω4 => some (some (.inl z4), ω4))) else none) else (am_bi (am_run (149, 0) 0 ([some (.inl l3), some (.inl 0), some (.inl 2)], [], ω3)) (fun z5 ω5 => if ¬ z5 = 0 then (if am_is ω5 l0 (7, 30) = true then (if am_in ω5 (am_get ω5 l0.toNat 11) 100 l1 = true then (am_bi (am_run (236, 0) 0 ([some (.inl 0), some (.inl (am_w ((am_get ω5 (am_get ω5 l0.toNat 11).toNat l1.toNat) - l2)))], [], ω5)) (fun z6 ω6 => if am_is ω6 l0 (7, 30) = true then (if am_in ω6 (am_get ω6 l0.toNat 9) 100 l1 = true then (if am_in ω6 (am_get ω6 l0.toNat 11) 100 l1 = true then (am_bi (am_run (236, 0) 0 ([some (.inl 0), some (.inl (am_w (l2 - (am_get ω6 (am_get ω6 l0.toNat 11).toNat l1.toNat))))], [], ω6)) (fun z7 ω7 => if am_is ω7 l0 (7, 30) = true then (if am_in ω7 (am_get ω7 l0.toNat 8) 100 l1 = true then (if am_in ω7 (am_get ω7 l0.toNat 4) 100 (am_get ω7 (am_get ω7 l0.toNat 8).toNat l1.toNat) = true then (if (am_get ω7 (am_get ω7 l0.toNat 4).toNat (am_get ω7 (am_get ω7 l0.toNat 8).toNat l1.toNat).toNat) = 0 then none else (if ¬ l3 = 0 then (if ¬ l3 = 1 then (some (some (.inl z6), ω7)) else (some (some (.inl ((am_w ((am_get ω6 (am_get ω6 l0.toNat 9).toNat l1.toNat) + z7)).tmod (am_get ω7 (am_get ω7 l0.toNat 4).toNat (am_get ω7 (am_get ω7 l0.toNat 8).toNat l1.toNat).toNat))), ω7))) else (some (some (.inl (am_get ω7 (am_get ω7 l0.toNat 8).toNat l1.toNat)), ω7)))) else none) else none) else none)) else none) else none) else none)) else none) else none) else (if am_is ω5 l0 (7, 30) = true then (am_bi (am_run (148, 0) 0 ([some (.inr (.inr l0)), some (.inl ((-2)))], [], ω5)) (fun z8 ω8 => some (some (.inl z8), ω8))) else none)))))) := by
  refine Eq.trans (rr_aload_n rfl rfl) ?_
  refine Eq.trans (rr_iload_n rfl rfl) ?_
  refine Eq.trans (rr_invV0i (S' := []) (L' := [some (.inr (.inr l0)), some (.inl l1)]) (m' := (151, 0)) rfl rfl rfl rfl rfl rfl h1) ?_
  refine bi_cg (fun z1 ω1 => ?_)
  refine Eq.trans (rr_if_eq rfl rfl) (it_cg (fun _ => ?_) (fun _ => ?_))
  · refine Eq.trans (rr_aload_n rfl rfl) ?_
    refine Eq.trans (rr_bipush rfl rfl) ?_
    refine ck_it (fun h => rr_invV0i (S' := []) (L' := [some (.inr (.inr l0)), some (.inl ((-2)))]) (m' := (148, 0)) rfl rfl rfl rfl rfl rfl h) (fun h => rr_invV0_no (S' := []) (L' := [some (.inr (.inr l0)), some (.inl ((-2)))]) (m' := (148, 0)) rfl rfl rfl rfl rfl rfl h) (fun h2 => ?_)
    refine bi_cg (fun z2 ω2 => ?_)
    exact rr_ireturn rfl rfl
  · refine Eq.trans (rr_iload_n rfl rfl) ?_
    refine Eq.trans (rr_iconst rfl rfl) ?_
    refine Eq.trans (rr_sipush rfl rfl) ?_
    refine Eq.trans (rr_invS2i (S' := []) (L' := [some (.inl l2), some (.inl 0), some (.inl 400)]) (m' := (149, 0)) rfl rfl rfl rfl rfl rfl) ?_
    refine bi_cg (fun z3 ω3 => ?_)
    refine Eq.trans (rr_if_eq rfl rfl) (it_cg (fun _ => ?_) (fun _ => ?_))
    · refine Eq.trans (rr_aload_n rfl rfl) ?_
      refine Eq.trans (rr_bipush rfl rfl) ?_
      refine ck_it (fun h => rr_invV0i (S' := []) (L' := [some (.inr (.inr l0)), some (.inl ((-2)))]) (m' := (148, 0)) rfl rfl rfl rfl rfl rfl h) (fun h => rr_invV0_no (S' := []) (L' := [some (.inr (.inr l0)), some (.inl ((-2)))]) (m' := (148, 0)) rfl rfl rfl rfl rfl rfl h) (fun h3 => ?_)
      refine bi_cg (fun z4 ω4 => ?_)
      exact rr_ireturn rfl rfl
    · refine Eq.trans (rr_iload_n rfl rfl) ?_
      refine Eq.trans (rr_iconst rfl rfl) ?_
      refine Eq.trans (rr_iconst rfl rfl) ?_
      refine Eq.trans (rr_invS2i (S' := []) (L' := [some (.inl l3), some (.inl 0), some (.inl 2)]) (m' := (149, 0)) rfl rfl rfl rfl rfl rfl) ?_
      refine bi_cg (fun z5 ω5 => ?_)
      refine Eq.trans (rr_if_ne rfl rfl) (it_cg (fun _ => ?_) (fun _ => ?_))
      · refine Eq.trans (rr_iconst rfl rfl) ?_
        refine Eq.trans (rr_aload_n rfl rfl) ?_
        refine ck_it (fun h => rr_getfr rfl rfl rfl h) (fun h => rr_getfield_no rfl rfl h) (fun h4 => ?_)
        refine Eq.trans (rr_iload_n rfl rfl) ?_
        refine ck_it (fun h => rr_iaload rfl rfl h) (fun h => rr_iaload_no rfl rfl h) (fun h5 => ?_)
        refine Eq.trans (rr_iload_n rfl rfl) ?_
        refine Eq.trans (rr_isub rfl) ?_
        refine Eq.trans (rr_invS2i (S' := []) (L' := [some (.inl 0), some (.inl (am_w ((am_get ω5 (am_get ω5 l0.toNat 11).toNat l1.toNat) - l2)))]) (m' := (236, 0)) rfl rfl rfl rfl rfl rfl) ?_
        refine bi_cg (fun z6 ω6 => ?_)
        refine Eq.trans (rr_istore (L' := [some (.inr (.inr l0)), some (.inl l1), some (.inl l2), some (.inl l3), some (.inl z6), none]) rfl rfl) ?_
        refine Eq.trans (rr_aload_n rfl rfl) ?_
        refine ck_it (fun h => rr_getfr rfl rfl rfl h) (fun h => rr_getfield_no rfl rfl h) (fun h6 => ?_)
        refine Eq.trans (rr_iload_n rfl rfl) ?_
        refine ck_it (fun h => rr_iaload rfl rfl h) (fun h => rr_iaload_no rfl rfl h) (fun h7 => ?_)
        refine Eq.trans (rr_iconst rfl rfl) ?_
        refine Eq.trans (rr_iload_n rfl rfl) ?_
        refine Eq.trans (rr_aload_n rfl rfl) ?_
        refine Eq.trans (rr_getfr rfl rfl rfl h6) ?_
        refine Eq.trans (rr_iload_n rfl rfl) ?_
        refine ck_it (fun h => rr_iaload rfl rfl h) (fun h => rr_iaload_no rfl rfl h) (fun h8 => ?_)
        refine Eq.trans (rr_isub rfl) ?_
        refine Eq.trans (rr_invS2i (S' := [.inl (am_get ω6 (am_get ω6 l0.toNat 9).toNat l1.toNat)]) (L' := [some (.inl 0), some (.inl (am_w (l2 - (am_get ω6 (am_get ω6 l0.toNat 11).toNat l1.toNat))))]) (m' := (236, 0)) rfl rfl rfl rfl rfl rfl) ?_
        refine bi_cg (fun z7 ω7 => ?_)
        refine Eq.trans (rr_iadd rfl) ?_
        refine Eq.trans (rr_aload_n rfl rfl) ?_
        refine ck_it (fun h => rr_getfr rfl rfl rfl h) (fun h => rr_getfield_no rfl rfl h) (fun h9 => ?_)
        refine Eq.trans (rr_aload_n rfl rfl) ?_
        refine Eq.trans (rr_getfr rfl rfl rfl h9) ?_
        refine Eq.trans (rr_iload_n rfl rfl) ?_
        refine ck_it (fun h => rr_iaload rfl rfl h) (fun h => rr_iaload_no rfl rfl h) (fun h10 => ?_)
        refine ck_it (fun h => rr_iaload rfl rfl h) (fun h => rr_iaload_no rfl rfl h) (fun h11 => ?_)
        refine Eq.trans (rr_irem rfl) (it_cg (fun _ => rfl) (fun _ => ?_))
        refine Eq.trans (rr_istore (L' := [some (.inr (.inr l0)), some (.inl l1), some (.inl l2), some (.inl l3), some (.inl z6), some (.inl ((am_w ((am_get ω6 (am_get ω6 l0.toNat 9).toNat l1.toNat) + z7)).tmod (am_get ω7 (am_get ω7 l0.toNat 4).toNat (am_get ω7 (am_get ω7 l0.toNat 8).toNat l1.toNat).toNat)))]) rfl rfl) ?_
        refine Eq.trans (rr_iload_n rfl rfl) ?_
        refine Eq.trans (rr_if_ne rfl rfl) (it_cg (fun _ => ?_) (fun _ => ?_))
        · refine Eq.trans (rr_iload_n rfl rfl) ?_
          refine Eq.trans (rr_iconst rfl rfl) ?_
          refine Eq.trans (rr_icmp_ne rfl rfl) (it_cg (fun _ => ?_) (fun _ => ?_))
          · refine Eq.trans (rr_iload rfl rfl) ?_
            exact rr_ireturn rfl rfl
          · refine Eq.trans (rr_iload rfl rfl) ?_
            refine Eq.trans (rr_goto rfl rfl) ?_
            exact rr_ireturn rfl rfl
        · refine Eq.trans (rr_aload_n rfl rfl) ?_
          refine Eq.trans (rr_getfr rfl rfl rfl h9) ?_
          refine Eq.trans (rr_iload_n rfl rfl) ?_
          refine Eq.trans (rr_iaload rfl rfl h10) ?_
          refine Eq.trans (rr_goto rfl rfl) ?_
          exact rr_ireturn rfl rfl
      · refine Eq.trans (rr_aload_n rfl rfl) ?_
        refine Eq.trans (rr_bipush rfl rfl) ?_
        refine ck_it (fun h => rr_invV0i (S' := []) (L' := [some (.inr (.inr l0)), some (.inl ((-2)))]) (m' := (148, 0)) rfl rfl rfl rfl rfl rfl h) (fun h => rr_invV0_no (S' := []) (L' := [some (.inr (.inr l0)), some (.inl ((-2)))]) (m' := (148, 0)) rfl rfl rfl rfl rfl rfl h) (fun h12 => ?_)
        refine bi_cg (fun z8 ω8 => ?_)
        exact rr_ireturn rfl rfl
theorem pX7_meets_0 (l0 l1 l2 : Int) (ω : am_W) (h1 : am_is ω l0 (7, 30) = true) : am_run (194, 0) 0 ([some (.inr (.inr l0)), some (.inl l1), some (.inl l2)], [], ω) = am_bi (am_run (152, 0) 0 ([some (.inr (.inr l0)), some (.inl l1), some (.inl l2)], [], ω)) (fun z1 ω1 => if ¬ z1 = 0 then (if am_is ω1 l0 (7, 30) = true then (am_bi (am_run (183, 0) 0 ([some (.inr (.inr l0)), some (.inl l1), some (.inl l2)], [], ω1)) (fun z2 ω2 => if z2 = 0 then (some (some (.inl 0), ω2)) else (some (some (.inl 1), ω2)))) else none) else (if am_is ω1 l0 (7, 30) = true then (am_bi (am_run (148, 0) 0 ([some (.inr (.inr l0)), some (.inl ((-2)))], [], ω1)) (fun z3 ω3 => some (some (.inl z3), ω3))) else none)) := by
  refine Eq.trans (rr_aload_n rfl rfl) ?_
  refine Eq.trans (rr_iload_n rfl rfl) ?_
  refine Eq.trans (rr_iload_n rfl rfl) ?_
  refine Eq.trans (rr_invV0i (S' := []) (L' := [some (.inr (.inr l0)), some (.inl l1), some (.inl l2)]) (m' := (152, 0)) rfl rfl rfl rfl rfl rfl h1) ?_
  refine bi_cg (fun z1 ω1 => ?_)
  refine Eq.trans (rr_if_ne rfl rfl) (it_cg (fun _ => ?_) (fun _ => ?_))
  · refine Eq.trans (rr_aload_n rfl rfl) ?_
    refine Eq.trans (rr_iload_n rfl rfl) ?_
    refine Eq.trans (rr_iload_n rfl rfl) ?_
    refine ck_it (fun h => rr_invV0i (S' := []) (L' := [some (.inr (.inr l0)), some (.inl l1), some (.inl l2)]) (m' := (183, 0)) rfl rfl rfl rfl rfl rfl h) (fun h => rr_invV0_no (S' := []) (L' := [some (.inr (.inr l0)), some (.inl l1), some (.inl l2)]) (m' := (183, 0)) rfl rfl rfl rfl rfl rfl h) (fun h2 => ?_)
    refine bi_cg (fun z2 ω2 => ?_)
    refine Eq.trans (rr_if_eq rfl rfl) (it_cg (fun _ => ?_) (fun _ => ?_))
    · refine Eq.trans (rr_iconst rfl rfl) ?_
      exact rr_ireturn rfl rfl
    · refine Eq.trans (rr_iconst rfl rfl) ?_
      refine Eq.trans (rr_goto rfl rfl) ?_
      exact rr_ireturn rfl rfl
  · refine Eq.trans (rr_aload_n rfl rfl) ?_
    refine Eq.trans (rr_bipush rfl rfl) ?_
    refine ck_it (fun h => rr_invV0i (S' := []) (L' := [some (.inr (.inr l0)), some (.inl ((-2)))]) (m' := (148, 0)) rfl rfl rfl rfl rfl rfl h) (fun h => rr_invV0_no (S' := []) (L' := [some (.inr (.inr l0)), some (.inl ((-2)))]) (m' := (148, 0)) rfl rfl rfl rfl rfl rfl h) (fun h3 => ?_)
    refine bi_cg (fun z3 ω3 => ?_)
    exact rr_ireturn rfl rfl
theorem pX7_noFlight_0 (l0 l1 l2 l3 : Int) (ω : am_W) : am_run (195, 0) 0 ([some (.inr (.inr l0)), some (.inl l1), some (.inl l2), some (.inl l3), none], [], ω) = am_bi (am_run (149, 0) 0 ([some (.inl l1), some (.inl 0), some (.inl 7)], [], ω)) (fun z1 ω1 => if z1 = 0 then (some (some (.inl ((-2))), ω1)) else (am_bi (am_run (149, 0) 0 ([some (.inl l2), some (.inl 0), some (.inl 40)], [], ω1)) (fun z2 ω2 => if z2 = 0 then (some (some (.inl ((-2))), ω2)) else (if l3 = 0 then (if am_is ω2 l0 (7, 30) = true then (am_bi (am_run (156, 0) 0 ([some (.inr (.inr l0)), some (.inl l1)], [], ω2)) (fun z3 ω3 => if 0 ≤ z3 then (if am_is ω3 l0 (7, 30) = true then (if am_in ω3 (am_get ω3 l0.toNat 1) 100 l1 = true then (if l2 ≤ (am_get ω3 (am_get ω3 l0.toNat 1).toNat l1.toNat) then (some (some (.inl 0), ω3)) else (some (some (.inl ((-2))), ω3))) else none) else none) else (some (some (.inl z3), ω3)))) else none) else (some (some (.inl ((-2))), ω2)))))) := by
  refine Eq.trans (rr_iload_n rfl rfl) ?_
  refine Eq.trans (rr_iconst rfl rfl) ?_
  refine Eq.trans (rr_bipush rfl rfl) ?_
  refine Eq.trans (rr_invS2i (S' := []) (L' := [some (.inl l1), some (.inl 0), some (.inl 7)]) (m' := (149, 0)) rfl rfl rfl rfl rfl rfl) ?_
  refine bi_cg (fun z1 ω1 => ?_)
  refine Eq.trans (rr_if_eq rfl rfl) (it_cg (fun _ => ?_) (fun _ => ?_))
  · refine Eq.trans (rr_bipush rfl rfl) ?_
    exact rr_ireturn rfl rfl
  · refine Eq.trans (rr_iload_n rfl rfl) ?_
    refine Eq.trans (rr_iconst rfl rfl) ?_
    refine Eq.trans (rr_bipush rfl rfl) ?_
    refine Eq.trans (rr_invS2i (S' := []) (L' := [some (.inl l2), some (.inl 0), some (.inl 40)]) (m' := (149, 0)) rfl rfl rfl rfl rfl rfl) ?_
    refine bi_cg (fun z2 ω2 => ?_)
    refine Eq.trans (rr_if_eq rfl rfl) (it_cg (fun _ => ?_) (fun _ => ?_))
    · refine Eq.trans (rr_bipush rfl rfl) ?_
      exact rr_ireturn rfl rfl
    · refine Eq.trans (rr_iload_n rfl rfl) ?_
      refine Eq.trans (rr_if_eq rfl rfl) (it_cg (fun _ => ?_) (fun _ => ?_))
      · refine Eq.trans (rr_aload_n rfl rfl) ?_
        refine Eq.trans (rr_iload_n rfl rfl) ?_
        refine ck_it (fun h => rr_invV0i (S' := []) (L' := [some (.inr (.inr l0)), some (.inl l1)]) (m' := (156, 0)) rfl rfl rfl rfl rfl rfl h) (fun h => rr_invV0_no (S' := []) (L' := [some (.inr (.inr l0)), some (.inl l1)]) (m' := (156, 0)) rfl rfl rfl rfl rfl rfl h) (fun h1 => ?_)
        refine bi_cg (fun z3 ω3 => ?_)
        refine Eq.trans (rr_istore (L' := [some (.inr (.inr l0)), some (.inl l1), some (.inl l2), some (.inl l3), some (.inl z3)]) rfl rfl) ?_
        refine Eq.trans (rr_iload rfl rfl) ?_
        refine Eq.trans (rr_if_ge rfl rfl) (it_cg (fun _ => ?_) (fun _ => ?_))
        · refine Eq.trans (rr_iload_n rfl rfl) ?_
          refine Eq.trans (rr_aload_n rfl rfl) ?_
          refine ck_it (fun h => rr_getfr rfl rfl rfl h) (fun h => rr_getfield_no rfl rfl h) (fun h2 => ?_)
          refine Eq.trans (rr_iload_n rfl rfl) ?_
          refine ck_it (fun h => rr_iaload rfl rfl h) (fun h => rr_iaload_no rfl rfl h) (fun h3 => ?_)
          refine Eq.trans (rr_icmp_le rfl rfl) (it_cg (fun _ => ?_) (fun _ => ?_))
          · refine Eq.trans (rr_iconst rfl rfl) ?_
            exact rr_ireturn rfl rfl
          · refine Eq.trans (rr_bipush rfl rfl) ?_
            refine Eq.trans (rr_goto rfl rfl) ?_
            exact rr_ireturn rfl rfl
        · refine Eq.trans (rr_iload rfl rfl) ?_
          refine Eq.trans (rr_goto rfl rfl) ?_
          exact rr_ireturn rfl rfl
      · refine Eq.trans (rr_bipush rfl rfl) ?_
        exact rr_ireturn rfl rfl
theorem pX7_fly_0 (l0 l1 l2 l3 l4 : Int) (ω : am_W) (h1 : am_is ω l0 (7, 30) = true) : am_run (196, 0) 0 ([some (.inr (.inr l0)), some (.inl l1), some (.inl l2), some (.inl l3), some (.inl l4), none, none, none, none], [], ω) = if l4 < 0 then (am_run (196, 0) 27 ([some (.inr (.inr l0)), some (.inl l1), some (.inl l2), some (.inl l3), some (.inl l4), some (.inl 0), none, none, none], [], am_put ω l0.toNat 29 ((-1)))) else (am_bi (am_run (183, 0) 0 ([some (.inr (.inr l0)), some (.inl l3), some (.inl l4)], [], ω)) (fun z1 ω1 => if z1 = 0 then (if am_is ω1 l0 (7, 30) = true then (am_run (196, 0) 27 ([some (.inr (.inr l0)), some (.inl l1), some (.inl l2), some (.inl l3), some (.inl l4), some (.inl 0), none, none, none], [], am_put ω1 l0.toNat 29 ((-1)))) else none) else (if am_is ω1 l0 (7, 30) = true then (am_run (196, 0) 27 ([some (.inr (.inr l0)), some (.inl l1), some (.inl l2), some (.inl l3), some (.inl l4), some (.inl 0), none, none, none], [], am_put ω1 l0.toNat 29 0)) else none))) := by
  refine Eq.trans (rr_aload_n rfl rfl) ?_
  refine Eq.trans (rr_iload rfl rfl) ?_
  refine Eq.trans (rr_if_lt rfl rfl) (it_cg (fun _ => ?_) (fun _ => ?_))
  · refine Eq.trans (rr_iconst rfl rfl) ?_
    refine Eq.trans (rr_putfieldi rfl rfl rfl h1) ?_
    refine Eq.trans (rr_iconst rfl rfl) ?_
    refine Eq.trans (rr_istore (L' := [some (.inr (.inr l0)), some (.inl l1), some (.inl l2), some (.inl l3), some (.inl l4), some (.inl 0), none, none, none]) rfl rfl) ?_
    rfl
  · refine Eq.trans (rr_aload_n rfl rfl) ?_
    refine Eq.trans (rr_iload_n rfl rfl) ?_
    refine Eq.trans (rr_iload rfl rfl) ?_
    refine Eq.trans (rr_invV0i (S' := [.inr (.inr l0)]) (L' := [some (.inr (.inr l0)), some (.inl l3), some (.inl l4)]) (m' := (183, 0)) rfl rfl rfl rfl rfl rfl h1) ?_
    refine bi_cg (fun z1 ω1 => ?_)
    refine Eq.trans (rr_if_eq rfl rfl) (it_cg (fun _ => ?_) (fun _ => ?_))
    · refine Eq.trans (rr_iconst rfl rfl) ?_
      refine ck_it (fun h => rr_putfieldi rfl rfl rfl h) (fun h => rr_putfieldi_no rfl rfl h) (fun h2 => ?_)
      refine Eq.trans (rr_iconst rfl rfl) ?_
      refine Eq.trans (rr_istore (L' := [some (.inr (.inr l0)), some (.inl l1), some (.inl l2), some (.inl l3), some (.inl l4), some (.inl 0), none, none, none]) rfl rfl) ?_
      rfl
    · refine Eq.trans (rr_iconst rfl rfl) ?_
      refine Eq.trans (rr_goto rfl rfl) ?_
      refine ck_it (fun h => rr_putfieldi rfl rfl rfl h) (fun h => rr_putfieldi_no rfl rfl h) (fun h3 => ?_)
      refine Eq.trans (rr_iconst rfl rfl) ?_
      refine Eq.trans (rr_istore (L' := [some (.inr (.inr l0)), some (.inl l1), some (.inl l2), some (.inl l3), some (.inl l4), some (.inl 0), none, none, none]) rfl rfl) ?_
      rfl
theorem pX7_fly_27 (l0 l1 l2 l3 l4 l5 : Int) (o6 o8 o7 : Option am_V) (ω : am_W) (h1 : am_is ω l0 (7, 30) = true) : am_run (196, 0) 27 ([some (.inr (.inr l0)), some (.inl l1), some (.inl l2), some (.inl l3), some (.inl l4), some (.inl l5), o6, o7, o8], [], ω) = if l2 ≤ l5 then (some (some (.inl ((-1))), ω)) else (if am_in ω (am_get ω l0.toNat 2) 101 (am_w ((am_w (40 * l1)) + l5)) = true then (if (am_cmp (am_get ω (am_get ω l0.toNat 2).toNat (am_w ((am_w (40 * l1)) + l5)).toNat) 0) < 0 then (some (some (.inl l5), ω)) else (if 0 < (am_cmp (am_get ω (am_get ω l0.toNat 2).toNat (am_w ((am_w (40 * l1)) + l5)).toNat) 2) then (some (some (.inl l5), ω)) else (am_bi (am_run (189, 0) 0 ([some (.inr (.inr l0)), some (.inl l3), some (.inl (am_w (am_get ω (am_get ω l0.toNat 2).toNat (am_w ((am_w (40 * l1)) + l5)).toNat)))], [], ω)) (fun z1 ω1 => if ¬ z1 = 0 then (if am_is ω1 l0 (7, 30) = true then (am_bv (am_run (191, 0) 0 ([some (.inr (.inr l0)), some (.inl l3), some (.inl (am_w (am_get ω (am_get ω l0.toNat 2).toNat (am_w ((am_w (40 * l1)) + l5)).toNat)))], [], ω1)) (fun ω2 => am_run (196, 0) 88 ([some (.inr (.inr l0)), some (.inl l1), some (.inl l2), some (.inl l3), some (.inl l4), some (.inl l5), some (.inr (.inl (am_get ω (am_get ω l0.toNat 2).toNat (am_w ((am_w (40 * l1)) + l5)).toNat))), none, some (.inl 0)], [], ω2))) else none) else (some (some (.inl l5), ω1)))))) else none) := by
  refine Eq.trans (rr_iload rfl rfl) ?_
  refine Eq.trans (rr_iload_n rfl rfl) ?_
  refine Eq.trans (rr_icmp_ge rfl rfl) (it_cg (fun _ => ?_) (fun _ => ?_))
  · refine Eq.trans (rr_iconst rfl rfl) ?_
    exact rr_ireturn rfl rfl
  · refine Eq.trans (rr_aload_n rfl rfl) ?_
    refine Eq.trans (rr_getfr rfl rfl rfl h1) ?_
    refine Eq.trans (rr_bipush rfl rfl) ?_
    refine Eq.trans (rr_iload_n rfl rfl) ?_
    refine Eq.trans (rr_imul rfl) ?_
    refine Eq.trans (rr_iload rfl rfl) ?_
    refine Eq.trans (rr_iadd rfl) ?_
    refine ck_it (fun h => rr_laload rfl h) (fun h => rr_laload_no rfl h) (fun h2 => ?_)
    refine Eq.trans (rr_lstore (L' := [some (.inr (.inr l0)), some (.inl l1), some (.inl l2), some (.inl l3), some (.inl l4), some (.inl l5), some (.inr (.inl (am_get ω (am_get ω l0.toNat 2).toNat (am_w ((am_w (40 * l1)) + l5)).toNat))), none, o8]) rfl rfl) ?_
    refine Eq.trans (rr_lload rfl rfl) ?_
    refine Eq.trans (rr_lconst rfl) ?_
    refine Eq.trans (rr_lcmp rfl) ?_
    refine Eq.trans (rr_if_lt rfl rfl) (it_cg (fun _ => ?_) (fun _ => ?_))
    · refine Eq.trans (rr_iload rfl rfl) ?_
      exact rr_ireturn rfl rfl
    · refine Eq.trans (rr_lload rfl rfl) ?_
      refine Eq.trans (rr_ldc2 rfl rfl) ?_
      refine Eq.trans (rr_lcmp rfl) ?_
      refine Eq.trans (rr_if_gt rfl rfl) (it_cg (fun _ => ?_) (fun _ => ?_))
      · refine Eq.trans (rr_iload rfl rfl) ?_
        exact rr_ireturn rfl rfl
      · refine Eq.trans (rr_aload_n rfl rfl) ?_
        refine Eq.trans (rr_iload_n rfl rfl) ?_
        refine Eq.trans (rr_lload rfl rfl) ?_
        refine Eq.trans (rr_l2i rfl) ?_
        refine Eq.trans (rr_invV0i (S' := []) (L' := [some (.inr (.inr l0)), some (.inl l3), some (.inl (am_w (am_get ω (am_get ω l0.toNat 2).toNat (am_w ((am_w (40 * l1)) + l5)).toNat)))]) (m' := (189, 0)) rfl rfl rfl rfl rfl rfl h1) ?_
        refine bi_cg (fun z1 ω1 => ?_)
        refine Eq.trans (rr_if_ne rfl rfl) (it_cg (fun _ => ?_) (fun _ => ?_))
        · refine Eq.trans (rr_aload_n rfl rfl) ?_
          refine Eq.trans (rr_iload_n rfl rfl) ?_
          refine Eq.trans (rr_lload rfl rfl) ?_
          refine Eq.trans (rr_l2i rfl) ?_
          refine ck_it (fun h => rr_invV0v (S' := []) (L' := [some (.inr (.inr l0)), some (.inl l3), some (.inl (am_w (am_get ω (am_get ω l0.toNat 2).toNat (am_w ((am_w (40 * l1)) + l5)).toNat)))]) (m' := (191, 0)) rfl rfl rfl rfl rfl rfl h) (fun h => rr_invV0_no (S' := []) (L' := [some (.inr (.inr l0)), some (.inl l3), some (.inl (am_w (am_get ω (am_get ω l0.toNat 2).toNat (am_w ((am_w (40 * l1)) + l5)).toNat)))]) (m' := (191, 0)) rfl rfl rfl rfl rfl rfl h) (fun h3 => ?_)
          refine bv_cg (fun ω2 => ?_)
          refine Eq.trans (rr_iconst rfl rfl) ?_
          refine Eq.trans (rr_istore (L' := [some (.inr (.inr l0)), some (.inl l1), some (.inl l2), some (.inl l3), some (.inl l4), some (.inl l5), some (.inr (.inl (am_get ω (am_get ω l0.toNat 2).toNat (am_w ((am_w (40 * l1)) + l5)).toNat))), none, some (.inl 0)]) rfl rfl) ?_
          rfl
        · refine Eq.trans (rr_iload rfl rfl) ?_
          exact rr_ireturn rfl rfl
theorem pX7_fly_88 (l0 l1 l2 l3 l4 l5 l6 l8 : Int) (ω : am_W) (h1 : am_is ω l0 (7, 30) = true) : am_run (196, 0) 88 ([some (.inr (.inr l0)), some (.inl l1), some (.inl l2), some (.inl l3), some (.inl l4), some (.inl l5), some (.inr (.inl l6)), none, some (.inl l8)], [], ω) = if (am_get ω l0.toNat 6) ≤ l8 then (if ¬ (am_get ω l0.toNat 29) = ((-1)) then (am_run (196, 0) 27 ([some (.inr (.inr l0)), some (.inl l1), some (.inl l2), some (.inl l3), some (.inl l4), some (.inl (am_w (l5 + 1))), some (.inr (.inl l6)), none, some (.inl l8)], [], ω)) else (if l4 < 0 then (am_run (196, 0) 27 ([some (.inr (.inr l0)), some (.inl l1), some (.inl l2), some (.inl l3), some (.inl l4), some (.inl (am_w (l5 + 1))), some (.inr (.inl l6)), none, some (.inl l8)], [], ω)) else (am_bi (am_run (183, 0) 0 ([some (.inr (.inr l0)), some (.inl l3), some (.inl l4)], [], ω)) (fun z1 ω1 => if z1 = 0 then (am_run (196, 0) 27 ([some (.inr (.inr l0)), some (.inl l1), some (.inl l2), some (.inl l3), some (.inl l4), some (.inl (am_w (l5 + 1))), some (.inr (.inl l6)), none, some (.inl l8)], [], ω1)) else (if am_is ω1 l0 (7, 30) = true then (am_run (196, 0) 27 ([some (.inr (.inr l0)), some (.inl l1), some (.inl l2), some (.inl l3), some (.inl l4), some (.inl (am_w (l5 + 1))), some (.inr (.inl l6)), none, some (.inl l8)], [], am_put ω1 l0.toNat 29 (am_w (l5 + 1)))) else none))))) else (am_bv (am_run (182, 0) 0 ([some (.inr (.inr l0)), some (.inl l8)], [], ω)) (fun ω2 => am_run (196, 0) 88 ([some (.inr (.inr l0)), some (.inl l1), some (.inl l2), some (.inl l3), some (.inl l4), some (.inl l5), some (.inr (.inl l6)), none, some (.inl (am_w (l8 + 1)))], [], ω2))) := by
  refine Eq.trans (rr_iload rfl rfl) ?_
  refine Eq.trans (rr_aload_n rfl rfl) ?_
  refine Eq.trans (rr_getfi rfl rfl rfl h1) ?_
  refine Eq.trans (rr_icmp_ge rfl rfl) (it_cg (fun _ => ?_) (fun _ => ?_))
  · refine Eq.trans (rr_aload_n rfl rfl) ?_
    refine Eq.trans (rr_getfi rfl rfl rfl h1) ?_
    refine Eq.trans (rr_iconst rfl rfl) ?_
    refine Eq.trans (rr_icmp_ne rfl rfl) (it_cg (fun _ => ?_) (fun _ => ?_))
    · refine Eq.trans (rr_iinc (L' := [some (.inr (.inr l0)), some (.inl l1), some (.inl l2), some (.inl l3), some (.inl l4), some (.inl (am_w (l5 + 1))), some (.inr (.inl l6)), none, some (.inl l8)]) rfl rfl rfl) ?_
      refine Eq.trans (rr_goto rfl rfl) ?_
      rfl
    · refine Eq.trans (rr_iload rfl rfl) ?_
      refine Eq.trans (rr_if_lt rfl rfl) (it_cg (fun _ => ?_) (fun _ => ?_))
      · refine Eq.trans (rr_iinc (L' := [some (.inr (.inr l0)), some (.inl l1), some (.inl l2), some (.inl l3), some (.inl l4), some (.inl (am_w (l5 + 1))), some (.inr (.inl l6)), none, some (.inl l8)]) rfl rfl rfl) ?_
        refine Eq.trans (rr_goto rfl rfl) ?_
        rfl
      · refine Eq.trans (rr_aload_n rfl rfl) ?_
        refine Eq.trans (rr_iload_n rfl rfl) ?_
        refine Eq.trans (rr_iload rfl rfl) ?_
        refine Eq.trans (rr_invV0i (S' := []) (L' := [some (.inr (.inr l0)), some (.inl l3), some (.inl l4)]) (m' := (183, 0)) rfl rfl rfl rfl rfl rfl h1) ?_
        refine bi_cg (fun z1 ω1 => ?_)
        refine Eq.trans (rr_if_eq rfl rfl) (it_cg (fun _ => ?_) (fun _ => ?_))
        · refine Eq.trans (rr_iinc (L' := [some (.inr (.inr l0)), some (.inl l1), some (.inl l2), some (.inl l3), some (.inl l4), some (.inl (am_w (l5 + 1))), some (.inr (.inl l6)), none, some (.inl l8)]) rfl rfl rfl) ?_
          refine Eq.trans (rr_goto rfl rfl) ?_
          rfl
        · refine Eq.trans (rr_aload_n rfl rfl) ?_
          refine Eq.trans (rr_iload rfl rfl) ?_
          refine Eq.trans (rr_iconst rfl rfl) ?_
          refine Eq.trans (rr_iadd rfl) ?_
          refine ck_it (fun h => rr_putfieldi rfl rfl rfl h) (fun h => rr_putfieldi_no rfl rfl h) (fun h2 => ?_)
          refine Eq.trans (rr_iinc (L' := [some (.inr (.inr l0)), some (.inl l1), some (.inl l2), some (.inl l3), some (.inl l4), some (.inl (am_w (l5 + 1))), some (.inr (.inl l6)), none, some (.inl l8)]) rfl rfl rfl) ?_
          refine Eq.trans (rr_goto rfl rfl) ?_
          rfl
  · refine Eq.trans (rr_aload_n rfl rfl) ?_
    refine Eq.trans (rr_iload rfl rfl) ?_
    refine Eq.trans (rr_invV0v (S' := []) (L' := [some (.inr (.inr l0)), some (.inl l8)]) (m' := (182, 0)) rfl rfl rfl rfl rfl rfl h1) ?_
    refine bv_cg (fun ω2 => ?_)
    refine Eq.trans (rr_iinc (L' := [some (.inr (.inr l0)), some (.inl l1), some (.inl l2), some (.inl l3), some (.inl l4), some (.inl l5), some (.inr (.inl l6)), none, some (.inl (am_w (l8 + 1)))]) rfl rfl rfl) ?_
    refine Eq.trans (rr_goto rfl rfl) ?_
    rfl
theorem pX7_judge_0 (l0 l1 l2 l3 : Int) (ω : am_W) (h1 : am_is ω l0 (7, 30) = true) : am_run (197, 0) 0 ([some (.inr (.inr l0)), some (.inl l1), some (.inl l2), some (.inl l3), none, none], [], ω) = am_bi (am_run (151, 0) 0 ([some (.inr (.inr l0)), some (.inl l3)], [], ω)) (fun z1 ω1 => if ¬ z1 = 0 then (am_run (197, 0) 16 ([some (.inr (.inr l0)), some (.inl l1), some (.inl l2), some (.inl l3), none, none], [.inl 0, .inl l2, .inl l1, .inr (.inr l0)], ω1)) else (am_run (197, 0) 16 ([some (.inr (.inr l0)), some (.inl l1), some (.inl l2), some (.inl l3), none, none], [.inl 1, .inl l2, .inl l1, .inr (.inr l0)], ω1))) := by
  refine Eq.trans (rr_aload_n rfl rfl) ?_
  refine Eq.trans (rr_iload_n rfl rfl) ?_
  refine Eq.trans (rr_iload_n rfl rfl) ?_
  refine Eq.trans (rr_aload_n rfl rfl) ?_
  refine Eq.trans (rr_iload_n rfl rfl) ?_
  refine Eq.trans (rr_invV0i (S' := [.inl l2, .inl l1, .inr (.inr l0)]) (L' := [some (.inr (.inr l0)), some (.inl l3)]) (m' := (151, 0)) rfl rfl rfl rfl rfl rfl h1) ?_
  refine bi_cg (fun z1 ω1 => ?_)
  refine Eq.trans (rr_if_ne rfl rfl) (it_cg (fun _ => ?_) (fun _ => ?_))
  · refine Eq.trans (rr_iconst rfl rfl) ?_
    rfl
  · refine Eq.trans (rr_iconst rfl rfl) ?_
    refine Eq.trans (rr_goto rfl rfl) ?_
    rfl
theorem pX7_judge_16 (l0 l1 l2 l3 s0 s1 s2 s3 : Int) (o4 o5 : Option am_V) (ω : am_W) (h1 : am_is ω s0 (7, 30) = true) : am_run (197, 0) 16 ([some (.inr (.inr l0)), some (.inl l1), some (.inl l2), some (.inl l3), o4, o5], [.inl s3, .inl s2, .inl s1, .inr (.inr s0)], ω) = am_bi (am_run (195, 0) 0 ([some (.inr (.inr s0)), some (.inl s1), some (.inl s2), some (.inl s3), none], [], ω)) (fun z1 ω1 => if 0 ≤ z1 then (if am_is ω1 l0 (7, 30) = true then (am_bv (am_run (229, 0) 0 ([some (.inr (.inr l0)), some (.inr (.inr (am_get ω1 l0.toNat 24))), none], [], ω1)) (fun ω2 => if am_is ω2 l0 (7, 30) = true then (am_bi (am_run (196, 0) 0 ([some (.inr (.inr l0)), some (.inl l1), some (.inl l2), some (.inl l3), some (.inl ((-1))), none, none, none, none], [], ω2)) (fun z3 ω3 => if am_is ω3 l0 (7, 30) = true then (am_bv (am_run (230, 0) 0 ([some (.inr (.inr l0)), some (.inr (.inr (am_get ω3 l0.toNat 24))), none], [], ω3)) (fun ω4 => some (some (.inl z3), ω4))) else none)) else none)) else none) else (if am_is ω1 l0 (7, 30) = true then (am_bi (am_run (148, 0) 0 ([some (.inr (.inr l0)), some (.inl z1)], [], ω1)) (fun z5 ω5 => some (some (.inl z5), ω5))) else none)) := by
  refine Eq.trans (rr_invV0i (S' := []) (L' := [some (.inr (.inr s0)), some (.inl s1), some (.inl s2), some (.inl s3), none]) (m' := (195, 0)) rfl rfl rfl rfl rfl rfl h1) ?_
  refine bi_cg (fun z1 ω1 => ?_)
  refine Eq.trans (rr_istore (L' := [some (.inr (.inr l0)), some (.inl l1), some (.inl l2), some (.inl l3), some (.inl z1), o5]) rfl rfl) ?_
  refine Eq.trans (rr_iload rfl rfl) ?_
  refine Eq.trans (rr_if_ge rfl rfl) (it_cg (fun _ => ?_) (fun _ => ?_))
  · refine Eq.trans (rr_aload_n rfl rfl) ?_
    refine Eq.trans (rr_aload_n rfl rfl) ?_
    refine ck_it (fun h => rr_getfr rfl rfl rfl h) (fun h => rr_getfield_no rfl rfl h) (fun h2 => ?_)
    refine Eq.trans (rr_invV0v (S' := []) (L' := [some (.inr (.inr l0)), some (.inr (.inr (am_get ω1 l0.toNat 24))), none]) (m' := (229, 0)) rfl rfl rfl rfl rfl rfl h2) ?_
    refine bv_cg (fun ω2 => ?_)
    refine Eq.trans (rr_aload_n rfl rfl) ?_
    refine Eq.trans (rr_iload_n rfl rfl) ?_
    refine Eq.trans (rr_iload_n rfl rfl) ?_
    refine Eq.trans (rr_iload_n rfl rfl) ?_
    refine Eq.trans (rr_iconst rfl rfl) ?_
    refine ck_it (fun h => rr_invV0i (S' := []) (L' := [some (.inr (.inr l0)), some (.inl l1), some (.inl l2), some (.inl l3), some (.inl ((-1))), none, none, none, none]) (m' := (196, 0)) rfl rfl rfl rfl rfl rfl h) (fun h => rr_invV0_no (S' := []) (L' := [some (.inr (.inr l0)), some (.inl l1), some (.inl l2), some (.inl l3), some (.inl ((-1))), none, none, none, none]) (m' := (196, 0)) rfl rfl rfl rfl rfl rfl h) (fun h3 => ?_)
    refine bi_cg (fun z3 ω3 => ?_)
    refine Eq.trans (rr_istore (L' := [some (.inr (.inr l0)), some (.inl l1), some (.inl l2), some (.inl l3), some (.inl z1), some (.inl z3)]) rfl rfl) ?_
    refine Eq.trans (rr_aload_n rfl rfl) ?_
    refine Eq.trans (rr_aload_n rfl rfl) ?_
    refine ck_it (fun h => rr_getfr rfl rfl rfl h) (fun h => rr_getfield_no rfl rfl h) (fun h4 => ?_)
    refine Eq.trans (rr_invV0v (S' := []) (L' := [some (.inr (.inr l0)), some (.inr (.inr (am_get ω3 l0.toNat 24))), none]) (m' := (230, 0)) rfl rfl rfl rfl rfl rfl h4) ?_
    refine bv_cg (fun ω4 => ?_)
    refine Eq.trans (rr_iload rfl rfl) ?_
    exact rr_ireturn rfl rfl
  · refine Eq.trans (rr_aload_n rfl rfl) ?_
    refine Eq.trans (rr_iload rfl rfl) ?_
    refine ck_it (fun h => rr_invV0i (S' := []) (L' := [some (.inr (.inr l0)), some (.inl z1)]) (m' := (148, 0)) rfl rfl rfl rfl rfl rfl h) (fun h => rr_invV0_no (S' := []) (L' := [some (.inr (.inr l0)), some (.inl z1)]) (m' := (148, 0)) rfl rfl rfl rfl rfl rfl h) (fun h5 => ?_)
    refine bi_cg (fun z5 ω5 => ?_)
    exact rr_ireturn rfl rfl
theorem pX7_flown_0 (l0 l1 l2 l3 l4 : Int) (ω : am_W) (h1 : am_is ω l0 (7, 30) = true) : am_run (198, 0) 0 ([some (.inr (.inr l0)), some (.inl l1), some (.inl l2), some (.inl l3), some (.inl l4), none, none, none], [], ω) = am_bi (am_run (151, 0) 0 ([some (.inr (.inr l0)), some (.inl l3)], [], ω)) (fun z1 ω1 => if z1 = 0 then (am_run (198, 0) 21 ([some (.inr (.inr l0)), some (.inl l1), some (.inl l2), some (.inl l3), some (.inl l4), none, none, none], [.inl l2, .inl l1, .inr (.inr l0)], ω1)) else (am_bi (am_run (149, 0) 0 ([some (.inl l4), some (.inl 0), some (.inl 3)], [], ω1)) (fun z2 ω2 => if ¬ z2 = 0 then (am_run (198, 0) 26 ([some (.inr (.inr l0)), some (.inl l1), some (.inl l2), some (.inl l3), some (.inl l4), none, none, none], [.inl 0, .inl l2, .inl l1, .inr (.inr l0)], ω2)) else (am_run (198, 0) 21 ([some (.inr (.inr l0)), some (.inl l1), some (.inl l2), some (.inl l3), some (.inl l4), none, none, none], [.inl l2, .inl l1, .inr (.inr l0)], ω2))))) := by
  refine Eq.trans (rr_aload_n rfl rfl) ?_
  refine Eq.trans (rr_iload_n rfl rfl) ?_
  refine Eq.trans (rr_iload_n rfl rfl) ?_
  refine Eq.trans (rr_aload_n rfl rfl) ?_
  refine Eq.trans (rr_iload_n rfl rfl) ?_
  refine Eq.trans (rr_invV0i (S' := [.inl l2, .inl l1, .inr (.inr l0)]) (L' := [some (.inr (.inr l0)), some (.inl l3)]) (m' := (151, 0)) rfl rfl rfl rfl rfl rfl h1) ?_
  refine bi_cg (fun z1 ω1 => ?_)
  refine Eq.trans (rr_if_eq rfl rfl) (it_cg (fun _ => ?_) (fun _ => ?_))
  · rfl
  · refine Eq.trans (rr_iload rfl rfl) ?_
    refine Eq.trans (rr_iconst rfl rfl) ?_
    refine Eq.trans (rr_iconst rfl rfl) ?_
    refine Eq.trans (rr_invS2i (S' := [.inl l2, .inl l1, .inr (.inr l0)]) (L' := [some (.inl l4), some (.inl 0), some (.inl 3)]) (m' := (149, 0)) rfl rfl rfl rfl rfl rfl) ?_
    refine bi_cg (fun z2 ω2 => ?_)
    refine Eq.trans (rr_if_ne rfl rfl) (it_cg (fun _ => ?_) (fun _ => ?_))
    · refine Eq.trans (rr_iconst rfl rfl) ?_
      rfl
    · rfl
theorem pX7_flown_21 (l0 l1 l2 l3 l4 s0 s1 s2 : Int) (o5 o6 o7 : Option am_V) (ω : am_W) : am_run (198, 0) 21 ([some (.inr (.inr l0)), some (.inl l1), some (.inl l2), some (.inl l3), some (.inl l4), o5, o6, o7], [.inl s2, .inl s1, .inr (.inr s0)], ω) = am_run (198, 0) 26 ([some (.inr (.inr l0)), some (.inl l1), some (.inl l2), some (.inl l3), some (.inl l4), o5, o6, o7], [.inl 1, .inl s2, .inl s1, .inr (.inr s0)], ω) := by
  refine Eq.trans (rr_iconst rfl rfl) ?_
  refine Eq.trans (rr_goto rfl rfl) ?_
  rfl
theorem pX7_flown_26 (l0 l1 l2 l3 l4 s0 s1 s2 s3 : Int) (o5 o6 o7 : Option am_V) (ω : am_W) (h1 : am_is ω s0 (7, 30) = true) : am_run (198, 0) 26 ([some (.inr (.inr l0)), some (.inl l1), some (.inl l2), some (.inl l3), some (.inl l4), o5, o6, o7], [.inl s3, .inl s2, .inl s1, .inr (.inr s0)], ω) = am_bi (am_run (195, 0) 0 ([some (.inr (.inr s0)), some (.inl s1), some (.inl s2), some (.inl s3), none], [], ω)) (fun z1 ω1 => if 0 ≤ z1 then (if am_is ω1 l0 (7, 30) = true then (am_bv (am_run (229, 0) 0 ([some (.inr (.inr l0)), some (.inr (.inr (am_get ω1 l0.toNat 24))), none], [], ω1)) (fun ω2 => if am_is ω2 l0 (7, 30) = true then (am_bi (am_run (196, 0) 0 ([some (.inr (.inr l0)), some (.inl l1), some (.inl l2), some (.inl l3), some (.inl ((-1))), none, none, none, none], [], ω2)) (fun z3 ω3 => if ¬ l4 = 0 then (if ¬ l4 = 1 then (if ¬ l4 = 2 then (if am_is ω3 l0 (7, 30) = true then (if am_in ω3 (am_get ω3 l0.toNat 11) 100 l3 = true then (am_bv (am_run (230, 0) 0 ([some (.inr (.inr l0)), some (.inr (.inr (am_get ω3 l0.toNat 24))), none], [], ω3)) (fun ω4 => if ¬ z3 = ((-1)) then (if am_is ω4 l0 (7, 30) = true then (am_bi (am_run (148, 0) 0 ([some (.inr (.inr l0)), some (.inl ((-5)))], [], ω4)) (fun z5 ω5 => some (some (.inl z5), ω5))) else none) else (some (some (.inl (am_get ω3 (am_get ω3 l0.toNat 11).toNat l3.toNat)), ω4)))) else none) else none) else (if am_is ω3 l0 (7, 30) = true then (if am_in ω3 (am_get ω3 l0.toNat 10) 100 l3 = true then (am_bv (am_run (230, 0) 0 ([some (.inr (.inr l0)), some (.inr (.inr (am_get ω3 l0.toNat 24))), none], [], ω3)) (fun ω6 => if ¬ z3 = ((-1)) then (if am_is ω6 l0 (7, 30) = true then (am_bi (am_run (148, 0) 0 ([some (.inr (.inr l0)), some (.inl ((-5)))], [], ω6)) (fun z7 ω7 => some (some (.inl z7), ω7))) else none) else (some (some (.inl (am_get ω3 (am_get ω3 l0.toNat 10).toNat l3.toNat)), ω6)))) else none) else none)) else (if am_is ω3 l0 (7, 30) = true then (if am_in ω3 (am_get ω3 l0.toNat 9) 100 l3 = true then (am_bv (am_run (230, 0) 0 ([some (.inr (.inr l0)), some (.inr (.inr (am_get ω3 l0.toNat 24))), none], [], ω3)) (fun ω8 => if ¬ z3 = ((-1)) then (if am_is ω8 l0 (7, 30) = true then (am_bi (am_run (148, 0) 0 ([some (.inr (.inr l0)), some (.inl ((-5)))], [], ω8)) (fun z9 ω9 => some (some (.inl z9), ω9))) else none) else (some (some (.inl (am_get ω3 (am_get ω3 l0.toNat 9).toNat l3.toNat)), ω8)))) else none) else none)) else (if am_is ω3 l0 (7, 30) = true then (if am_in ω3 (am_get ω3 l0.toNat 8) 100 l3 = true then (am_bv (am_run (230, 0) 0 ([some (.inr (.inr l0)), some (.inr (.inr (am_get ω3 l0.toNat 24))), none], [], ω3)) (fun ω10 => if ¬ z3 = ((-1)) then (if am_is ω10 l0 (7, 30) = true then (am_bi (am_run (148, 0) 0 ([some (.inr (.inr l0)), some (.inl ((-5)))], [], ω10)) (fun z11 ω11 => some (some (.inl z11), ω11))) else none) else (some (some (.inl (am_get ω3 (am_get ω3 l0.toNat 8).toNat l3.toNat)), ω10)))) else none) else none))) else none)) else none) else (if am_is ω1 l0 (7, 30) = true then (am_bi (am_run (148, 0) 0 ([some (.inr (.inr l0)), some (.inl z1)], [], ω1)) (fun z12 ω12 => some (some (.inl z12), ω12))) else none)) := by
  refine Eq.trans (rr_invV0i (S' := []) (L' := [some (.inr (.inr s0)), some (.inl s1), some (.inl s2), some (.inl s3), none]) (m' := (195, 0)) rfl rfl rfl rfl rfl rfl h1) ?_
  refine bi_cg (fun z1 ω1 => ?_)
  refine Eq.trans (rr_istore (L' := [some (.inr (.inr l0)), some (.inl l1), some (.inl l2), some (.inl l3), some (.inl l4), some (.inl z1), o6, o7]) rfl rfl) ?_
  refine Eq.trans (rr_iload rfl rfl) ?_
  refine Eq.trans (rr_if_ge rfl rfl) (it_cg (fun _ => ?_) (fun _ => ?_))
  · refine Eq.trans (rr_aload_n rfl rfl) ?_
    refine Eq.trans (rr_aload_n rfl rfl) ?_
    refine ck_it (fun h => rr_getfr rfl rfl rfl h) (fun h => rr_getfield_no rfl rfl h) (fun h2 => ?_)
    refine Eq.trans (rr_invV0v (S' := []) (L' := [some (.inr (.inr l0)), some (.inr (.inr (am_get ω1 l0.toNat 24))), none]) (m' := (229, 0)) rfl rfl rfl rfl rfl rfl h2) ?_
    refine bv_cg (fun ω2 => ?_)
    refine Eq.trans (rr_aload_n rfl rfl) ?_
    refine Eq.trans (rr_iload_n rfl rfl) ?_
    refine Eq.trans (rr_iload_n rfl rfl) ?_
    refine Eq.trans (rr_iload_n rfl rfl) ?_
    refine Eq.trans (rr_iconst rfl rfl) ?_
    refine ck_it (fun h => rr_invV0i (S' := []) (L' := [some (.inr (.inr l0)), some (.inl l1), some (.inl l2), some (.inl l3), some (.inl ((-1))), none, none, none, none]) (m' := (196, 0)) rfl rfl rfl rfl rfl rfl h) (fun h => rr_invV0_no (S' := []) (L' := [some (.inr (.inr l0)), some (.inl l1), some (.inl l2), some (.inl l3), some (.inl ((-1))), none, none, none, none]) (m' := (196, 0)) rfl rfl rfl rfl rfl rfl h) (fun h3 => ?_)
    refine bi_cg (fun z3 ω3 => ?_)
    refine Eq.trans (rr_istore (L' := [some (.inr (.inr l0)), some (.inl l1), some (.inl l2), some (.inl l3), some (.inl l4), some (.inl z1), some (.inl z3), o7]) rfl rfl) ?_
    refine Eq.trans (rr_iload rfl rfl) ?_
    refine Eq.trans (rr_if_ne rfl rfl) (it_cg (fun _ => ?_) (fun _ => ?_))
    · refine Eq.trans (rr_iload rfl rfl) ?_
      refine Eq.trans (rr_iconst rfl rfl) ?_
      refine Eq.trans (rr_icmp_ne rfl rfl) (it_cg (fun _ => ?_) (fun _ => ?_))
      · refine Eq.trans (rr_iload rfl rfl) ?_
        refine Eq.trans (rr_iconst rfl rfl) ?_
        refine Eq.trans (rr_icmp_ne rfl rfl) (it_cg (fun _ => ?_) (fun _ => ?_))
        · refine Eq.trans (rr_aload_n rfl rfl) ?_
          refine ck_it (fun h => rr_getfr rfl rfl rfl h) (fun h => rr_getfield_no rfl rfl h) (fun h4 => ?_)
          refine Eq.trans (rr_iload_n rfl rfl) ?_
          refine ck_it (fun h => rr_iaload rfl rfl h) (fun h => rr_iaload_no rfl rfl h) (fun h5 => ?_)
          refine Eq.trans (rr_istore (L' := [some (.inr (.inr l0)), some (.inl l1), some (.inl l2), some (.inl l3), some (.inl l4), some (.inl z1), some (.inl z3), some (.inl (am_get ω3 (am_get ω3 l0.toNat 11).toNat l3.toNat))]) rfl rfl) ?_
          refine Eq.trans (rr_aload_n rfl rfl) ?_
          refine Eq.trans (rr_aload_n rfl rfl) ?_
          refine Eq.trans (rr_getfr rfl rfl rfl h4) ?_
          refine Eq.trans (rr_invV0v (S' := []) (L' := [some (.inr (.inr l0)), some (.inr (.inr (am_get ω3 l0.toNat 24))), none]) (m' := (230, 0)) rfl rfl rfl rfl rfl rfl h4) ?_
          refine bv_cg (fun ω4 => ?_)
          refine Eq.trans (rr_iload rfl rfl) ?_
          refine Eq.trans (rr_iconst rfl rfl) ?_
          refine Eq.trans (rr_icmp_ne rfl rfl) (it_cg (fun _ => ?_) (fun _ => ?_))
          · refine Eq.trans (rr_aload_n rfl rfl) ?_
            refine Eq.trans (rr_bipush rfl rfl) ?_
            refine ck_it (fun h => rr_invV0i (S' := []) (L' := [some (.inr (.inr l0)), some (.inl ((-5)))]) (m' := (148, 0)) rfl rfl rfl rfl rfl rfl h) (fun h => rr_invV0_no (S' := []) (L' := [some (.inr (.inr l0)), some (.inl ((-5)))]) (m' := (148, 0)) rfl rfl rfl rfl rfl rfl h) (fun h6 => ?_)
            refine bi_cg (fun z5 ω5 => ?_)
            exact rr_ireturn rfl rfl
          · refine Eq.trans (rr_iload rfl rfl) ?_
            refine Eq.trans (rr_goto rfl rfl) ?_
            exact rr_ireturn rfl rfl
        · refine Eq.trans (rr_aload_n rfl rfl) ?_
          refine ck_it (fun h => rr_getfr rfl rfl rfl h) (fun h => rr_getfield_no rfl rfl h) (fun h7 => ?_)
          refine Eq.trans (rr_iload_n rfl rfl) ?_
          refine ck_it (fun h => rr_iaload rfl rfl h) (fun h => rr_iaload_no rfl rfl h) (fun h8 => ?_)
          refine Eq.trans (rr_goto rfl rfl) ?_
          refine Eq.trans (rr_istore (L' := [some (.inr (.inr l0)), some (.inl l1), some (.inl l2), some (.inl l3), some (.inl l4), some (.inl z1), some (.inl z3), some (.inl (am_get ω3 (am_get ω3 l0.toNat 10).toNat l3.toNat))]) rfl rfl) ?_
          refine Eq.trans (rr_aload_n rfl rfl) ?_
          refine Eq.trans (rr_aload_n rfl rfl) ?_
          refine Eq.trans (rr_getfr rfl rfl rfl h7) ?_
          refine Eq.trans (rr_invV0v (S' := []) (L' := [some (.inr (.inr l0)), some (.inr (.inr (am_get ω3 l0.toNat 24))), none]) (m' := (230, 0)) rfl rfl rfl rfl rfl rfl h7) ?_
          refine bv_cg (fun ω6 => ?_)
          refine Eq.trans (rr_iload rfl rfl) ?_
          refine Eq.trans (rr_iconst rfl rfl) ?_
          refine Eq.trans (rr_icmp_ne rfl rfl) (it_cg (fun _ => ?_) (fun _ => ?_))
          · refine Eq.trans (rr_aload_n rfl rfl) ?_
            refine Eq.trans (rr_bipush rfl rfl) ?_
            refine ck_it (fun h => rr_invV0i (S' := []) (L' := [some (.inr (.inr l0)), some (.inl ((-5)))]) (m' := (148, 0)) rfl rfl rfl rfl rfl rfl h) (fun h => rr_invV0_no (S' := []) (L' := [some (.inr (.inr l0)), some (.inl ((-5)))]) (m' := (148, 0)) rfl rfl rfl rfl rfl rfl h) (fun h9 => ?_)
            refine bi_cg (fun z7 ω7 => ?_)
            exact rr_ireturn rfl rfl
          · refine Eq.trans (rr_iload rfl rfl) ?_
            refine Eq.trans (rr_goto rfl rfl) ?_
            exact rr_ireturn rfl rfl
      · refine Eq.trans (rr_aload_n rfl rfl) ?_
        refine ck_it (fun h => rr_getfr rfl rfl rfl h) (fun h => rr_getfield_no rfl rfl h) (fun h10 => ?_)
        refine Eq.trans (rr_iload_n rfl rfl) ?_
        refine ck_it (fun h => rr_iaload rfl rfl h) (fun h => rr_iaload_no rfl rfl h) (fun h11 => ?_)
        refine Eq.trans (rr_goto rfl rfl) ?_
        refine Eq.trans (rr_istore (L' := [some (.inr (.inr l0)), some (.inl l1), some (.inl l2), some (.inl l3), some (.inl l4), some (.inl z1), some (.inl z3), some (.inl (am_get ω3 (am_get ω3 l0.toNat 9).toNat l3.toNat))]) rfl rfl) ?_
        refine Eq.trans (rr_aload_n rfl rfl) ?_
        refine Eq.trans (rr_aload_n rfl rfl) ?_
        refine Eq.trans (rr_getfr rfl rfl rfl h10) ?_
        refine Eq.trans (rr_invV0v (S' := []) (L' := [some (.inr (.inr l0)), some (.inr (.inr (am_get ω3 l0.toNat 24))), none]) (m' := (230, 0)) rfl rfl rfl rfl rfl rfl h10) ?_
        refine bv_cg (fun ω8 => ?_)
        refine Eq.trans (rr_iload rfl rfl) ?_
        refine Eq.trans (rr_iconst rfl rfl) ?_
        refine Eq.trans (rr_icmp_ne rfl rfl) (it_cg (fun _ => ?_) (fun _ => ?_))
        · refine Eq.trans (rr_aload_n rfl rfl) ?_
          refine Eq.trans (rr_bipush rfl rfl) ?_
          refine ck_it (fun h => rr_invV0i (S' := []) (L' := [some (.inr (.inr l0)), some (.inl ((-5)))]) (m' := (148, 0)) rfl rfl rfl rfl rfl rfl h) (fun h => rr_invV0_no (S' := []) (L' := [some (.inr (.inr l0)), some (.inl ((-5)))]) (m' := (148, 0)) rfl rfl rfl rfl rfl rfl h) (fun h12 => ?_)
          refine bi_cg (fun z9 ω9 => ?_)
          exact rr_ireturn rfl rfl
        · refine Eq.trans (rr_iload rfl rfl) ?_
          refine Eq.trans (rr_goto rfl rfl) ?_
          exact rr_ireturn rfl rfl
    · refine Eq.trans (rr_aload_n rfl rfl) ?_
      refine ck_it (fun h => rr_getfr rfl rfl rfl h) (fun h => rr_getfield_no rfl rfl h) (fun h13 => ?_)
      refine Eq.trans (rr_iload_n rfl rfl) ?_
      refine ck_it (fun h => rr_iaload rfl rfl h) (fun h => rr_iaload_no rfl rfl h) (fun h14 => ?_)
      refine Eq.trans (rr_goto rfl rfl) ?_
      refine Eq.trans (rr_istore (L' := [some (.inr (.inr l0)), some (.inl l1), some (.inl l2), some (.inl l3), some (.inl l4), some (.inl z1), some (.inl z3), some (.inl (am_get ω3 (am_get ω3 l0.toNat 8).toNat l3.toNat))]) rfl rfl) ?_
      refine Eq.trans (rr_aload_n rfl rfl) ?_
      refine Eq.trans (rr_aload_n rfl rfl) ?_
      refine Eq.trans (rr_getfr rfl rfl rfl h13) ?_
      refine Eq.trans (rr_invV0v (S' := []) (L' := [some (.inr (.inr l0)), some (.inr (.inr (am_get ω3 l0.toNat 24))), none]) (m' := (230, 0)) rfl rfl rfl rfl rfl rfl h13) ?_
      refine bv_cg (fun ω10 => ?_)
      refine Eq.trans (rr_iload rfl rfl) ?_
      refine Eq.trans (rr_iconst rfl rfl) ?_
      refine Eq.trans (rr_icmp_ne rfl rfl) (it_cg (fun _ => ?_) (fun _ => ?_))
      · refine Eq.trans (rr_aload_n rfl rfl) ?_
        refine Eq.trans (rr_bipush rfl rfl) ?_
        refine ck_it (fun h => rr_invV0i (S' := []) (L' := [some (.inr (.inr l0)), some (.inl ((-5)))]) (m' := (148, 0)) rfl rfl rfl rfl rfl rfl h) (fun h => rr_invV0_no (S' := []) (L' := [some (.inr (.inr l0)), some (.inl ((-5)))]) (m' := (148, 0)) rfl rfl rfl rfl rfl rfl h) (fun h15 => ?_)
        refine bi_cg (fun z11 ω11 => ?_)
        exact rr_ireturn rfl rfl
      · refine Eq.trans (rr_iload rfl rfl) ?_
        refine Eq.trans (rr_goto rfl rfl) ?_
        exact rr_ireturn rfl rfl
  · refine Eq.trans (rr_aload_n rfl rfl) ?_
    refine Eq.trans (rr_iload rfl rfl) ?_
    refine ck_it (fun h => rr_invV0i (S' := []) (L' := [some (.inr (.inr l0)), some (.inl z1)]) (m' := (148, 0)) rfl rfl rfl rfl rfl rfl h) (fun h => rr_invV0_no (S' := []) (L' := [some (.inr (.inr l0)), some (.inl z1)]) (m' := (148, 0)) rfl rfl rfl rfl rfl rfl h) (fun h16 => ?_)
    refine bi_cg (fun z12 ω12 => ?_)
    exact rr_ireturn rfl rfl
theorem pX7_met_0 (l0 l1 l2 l3 l4 : Int) (ω : am_W) (h1 : am_is ω l0 (7, 30) = true) : am_run (199, 0) 0 ([some (.inr (.inr l0)), some (.inl l1), some (.inl l2), some (.inl l3), some (.inl l4), none, none], [], ω) = am_bi (am_run (152, 0) 0 ([some (.inr (.inr l0)), some (.inl l3), some (.inl l4)], [], ω)) (fun z1 ω1 => if ¬ z1 = 0 then (am_run (199, 0) 18 ([some (.inr (.inr l0)), some (.inl l1), some (.inl l2), some (.inl l3), some (.inl l4), none, none], [.inl 0, .inl l2, .inl l1, .inr (.inr l0)], ω1)) else (am_run (199, 0) 18 ([some (.inr (.inr l0)), some (.inl l1), some (.inl l2), some (.inl l3), some (.inl l4), none, none], [.inl 1, .inl l2, .inl l1, .inr (.inr l0)], ω1))) := by
  refine Eq.trans (rr_aload_n rfl rfl) ?_
  refine Eq.trans (rr_iload_n rfl rfl) ?_
  refine Eq.trans (rr_iload_n rfl rfl) ?_
  refine Eq.trans (rr_aload_n rfl rfl) ?_
  refine Eq.trans (rr_iload_n rfl rfl) ?_
  refine Eq.trans (rr_iload rfl rfl) ?_
  refine Eq.trans (rr_invV0i (S' := [.inl l2, .inl l1, .inr (.inr l0)]) (L' := [some (.inr (.inr l0)), some (.inl l3), some (.inl l4)]) (m' := (152, 0)) rfl rfl rfl rfl rfl rfl h1) ?_
  refine bi_cg (fun z1 ω1 => ?_)
  refine Eq.trans (rr_if_ne rfl rfl) (it_cg (fun _ => ?_) (fun _ => ?_))
  · refine Eq.trans (rr_iconst rfl rfl) ?_
    rfl
  · refine Eq.trans (rr_iconst rfl rfl) ?_
    refine Eq.trans (rr_goto rfl rfl) ?_
    rfl
theorem pX7_met_18 (l0 l1 l2 l3 l4 s0 s1 s2 s3 : Int) (o5 o6 : Option am_V) (ω : am_W) (h1 : am_is ω s0 (7, 30) = true) : am_run (199, 0) 18 ([some (.inr (.inr l0)), some (.inl l1), some (.inl l2), some (.inl l3), some (.inl l4), o5, o6], [.inl s3, .inl s2, .inl s1, .inr (.inr s0)], ω) = am_bi (am_run (195, 0) 0 ([some (.inr (.inr s0)), some (.inl s1), some (.inl s2), some (.inl s3), none], [], ω)) (fun z1 ω1 => if 0 ≤ z1 then (if am_is ω1 l0 (7, 30) = true then (am_bv (am_run (229, 0) 0 ([some (.inr (.inr l0)), some (.inr (.inr (am_get ω1 l0.toNat 24))), none], [], ω1)) (fun ω2 => if am_is ω2 l0 (7, 30) = true then (am_bi (am_run (196, 0) 0 ([some (.inr (.inr l0)), some (.inl l1), some (.inl l2), some (.inl l3), some (.inl l4), none, none, none, none], [], ω2)) (fun z3 ω3 => if am_is ω3 l0 (7, 30) = true then (am_bv (am_run (230, 0) 0 ([some (.inr (.inr l0)), some (.inr (.inr (am_get ω3 l0.toNat 24))), none], [], ω3)) (fun ω4 => if ¬ z3 = ((-1)) then (if am_is ω4 l0 (7, 30) = true then (am_bi (am_run (148, 0) 0 ([some (.inr (.inr l0)), some (.inl ((-5)))], [], ω4)) (fun z5 ω5 => some (some (.inl z5), ω5))) else none) else (if am_is ω4 l0 (7, 30) = true then (some (some (.inl (am_get ω4 l0.toNat 29)), ω4)) else none))) else none)) else none)) else none) else (if am_is ω1 l0 (7, 30) = true then (am_bi (am_run (148, 0) 0 ([some (.inr (.inr l0)), some (.inl z1)], [], ω1)) (fun z6 ω6 => some (some (.inl z6), ω6))) else none)) := by
  refine Eq.trans (rr_invV0i (S' := []) (L' := [some (.inr (.inr s0)), some (.inl s1), some (.inl s2), some (.inl s3), none]) (m' := (195, 0)) rfl rfl rfl rfl rfl rfl h1) ?_
  refine bi_cg (fun z1 ω1 => ?_)
  refine Eq.trans (rr_istore (L' := [some (.inr (.inr l0)), some (.inl l1), some (.inl l2), some (.inl l3), some (.inl l4), some (.inl z1), o6]) rfl rfl) ?_
  refine Eq.trans (rr_iload rfl rfl) ?_
  refine Eq.trans (rr_if_ge rfl rfl) (it_cg (fun _ => ?_) (fun _ => ?_))
  · refine Eq.trans (rr_aload_n rfl rfl) ?_
    refine Eq.trans (rr_aload_n rfl rfl) ?_
    refine ck_it (fun h => rr_getfr rfl rfl rfl h) (fun h => rr_getfield_no rfl rfl h) (fun h2 => ?_)
    refine Eq.trans (rr_invV0v (S' := []) (L' := [some (.inr (.inr l0)), some (.inr (.inr (am_get ω1 l0.toNat 24))), none]) (m' := (229, 0)) rfl rfl rfl rfl rfl rfl h2) ?_
    refine bv_cg (fun ω2 => ?_)
    refine Eq.trans (rr_aload_n rfl rfl) ?_
    refine Eq.trans (rr_iload_n rfl rfl) ?_
    refine Eq.trans (rr_iload_n rfl rfl) ?_
    refine Eq.trans (rr_iload_n rfl rfl) ?_
    refine Eq.trans (rr_iload rfl rfl) ?_
    refine ck_it (fun h => rr_invV0i (S' := []) (L' := [some (.inr (.inr l0)), some (.inl l1), some (.inl l2), some (.inl l3), some (.inl l4), none, none, none, none]) (m' := (196, 0)) rfl rfl rfl rfl rfl rfl h) (fun h => rr_invV0_no (S' := []) (L' := [some (.inr (.inr l0)), some (.inl l1), some (.inl l2), some (.inl l3), some (.inl l4), none, none, none, none]) (m' := (196, 0)) rfl rfl rfl rfl rfl rfl h) (fun h3 => ?_)
    refine bi_cg (fun z3 ω3 => ?_)
    refine Eq.trans (rr_istore (L' := [some (.inr (.inr l0)), some (.inl l1), some (.inl l2), some (.inl l3), some (.inl l4), some (.inl z1), some (.inl z3)]) rfl rfl) ?_
    refine Eq.trans (rr_aload_n rfl rfl) ?_
    refine Eq.trans (rr_aload_n rfl rfl) ?_
    refine ck_it (fun h => rr_getfr rfl rfl rfl h) (fun h => rr_getfield_no rfl rfl h) (fun h4 => ?_)
    refine Eq.trans (rr_invV0v (S' := []) (L' := [some (.inr (.inr l0)), some (.inr (.inr (am_get ω3 l0.toNat 24))), none]) (m' := (230, 0)) rfl rfl rfl rfl rfl rfl h4) ?_
    refine bv_cg (fun ω4 => ?_)
    refine Eq.trans (rr_iload rfl rfl) ?_
    refine Eq.trans (rr_iconst rfl rfl) ?_
    refine Eq.trans (rr_icmp_ne rfl rfl) (it_cg (fun _ => ?_) (fun _ => ?_))
    · refine Eq.trans (rr_aload_n rfl rfl) ?_
      refine Eq.trans (rr_bipush rfl rfl) ?_
      refine ck_it (fun h => rr_invV0i (S' := []) (L' := [some (.inr (.inr l0)), some (.inl ((-5)))]) (m' := (148, 0)) rfl rfl rfl rfl rfl rfl h) (fun h => rr_invV0_no (S' := []) (L' := [some (.inr (.inr l0)), some (.inl ((-5)))]) (m' := (148, 0)) rfl rfl rfl rfl rfl rfl h) (fun h5 => ?_)
      refine bi_cg (fun z5 ω5 => ?_)
      exact rr_ireturn rfl rfl
    · refine Eq.trans (rr_aload_n rfl rfl) ?_
      refine ck_it (fun h => rr_getfi rfl rfl rfl h) (fun h => rr_getfield_no rfl rfl h) (fun h6 => ?_)
      refine Eq.trans (rr_goto rfl rfl) ?_
      exact rr_ireturn rfl rfl
  · refine Eq.trans (rr_aload_n rfl rfl) ?_
    refine Eq.trans (rr_iload rfl rfl) ?_
    refine ck_it (fun h => rr_invV0i (S' := []) (L' := [some (.inr (.inr l0)), some (.inl z1)]) (m' := (148, 0)) rfl rfl rfl rfl rfl rfl h) (fun h => rr_invV0_no (S' := []) (L' := [some (.inr (.inr l0)), some (.inl z1)]) (m' := (148, 0)) rfl rfl rfl rfl rfl rfl h) (fun h7 => ?_)
    refine bi_cg (fun z6 ω6 => ?_)
    exact rr_ireturn rfl rfl
theorem pX7_state_0 (l0 l1 l2 l3 : Int) (ω : am_W) : am_run (200, 0) 0 ([some (.inl l0), some (.inl l1), some (.inl l2), some (.inl l3)], [], ω) = some (some (.inl (am_w ((am_w ((am_w ((am_w ((am_w ((am_w (l0 * 20)) + l1)) * 11)) + l2)) * 8)) + l3))), ω) := by
  refine Eq.trans (rr_iload_n rfl rfl) ?_
  refine Eq.trans (rr_bipush rfl rfl) ?_
  refine Eq.trans (rr_imul rfl) ?_
  refine Eq.trans (rr_iload_n rfl rfl) ?_
  refine Eq.trans (rr_iadd rfl) ?_
  refine Eq.trans (rr_bipush rfl rfl) ?_
  refine Eq.trans (rr_imul rfl) ?_
  refine Eq.trans (rr_iload_n rfl rfl) ?_
  refine Eq.trans (rr_iadd rfl) ?_
  refine Eq.trans (rr_bipush rfl rfl) ?_
  refine Eq.trans (rr_imul rfl) ?_
  refine Eq.trans (rr_iload_n rfl rfl) ?_
  refine Eq.trans (rr_iadd rfl) ?_
  exact rr_ireturn rfl rfl
theorem pX7_begin_0 (l0 l1 l2 : Int) (ω : am_W) : am_run (201, 0) 0 ([some (.inr (.inr l0)), some (.inl l1), some (.inl l2), none], [], ω) = am_run (201, 0) 2 ([some (.inr (.inr l0)), some (.inl l1), some (.inl l2), some (.inl 0)], [], ω) := by
  refine Eq.trans (rr_iconst rfl rfl) ?_
  refine Eq.trans (rr_istore_n (L' := [some (.inr (.inr l0)), some (.inl l1), some (.inl l2), some (.inl 0)]) rfl rfl) ?_
  rfl
theorem pX7_begin_2 (l0 l1 l2 l3 : Int) (ω : am_W) (h1 : am_is ω l0 (7, 30) = true) : am_run (201, 0) 2 ([some (.inr (.inr l0)), some (.inl l1), some (.inl l2), some (.inl l3)], [], ω) = if am_arl ω (am_get ω l0.toNat 25) = true then (if (am_len ω (am_get ω l0.toNat 25)) ≤ l3 then (if am_in ω (am_get ω l0.toNat 8) 100 l1 = true then (if am_in ω (am_get ω l0.toNat 9) 100 l1 = true then (if am_in ω (am_get ω l0.toNat 11) 100 l1 = true then (am_bi (am_run (200, 0) 0 ([some (.inl (am_get ω (am_get ω l0.toNat 8).toNat l1.toNat)), some (.inl (am_get ω (am_get ω l0.toNat 9).toNat l1.toNat)), some (.inl (am_get ω (am_get ω l0.toNat 11).toNat l1.toNat)), some (.inl l2)], [], ω)) (fun z1 ω1 => if am_in ω1 (am_get ω l0.toNat 25) 100 z1 = true then (some (none, am_put ω1 (am_get ω l0.toNat 25).toNat z1.toNat 0)) else none)) else none) else none) else none) else (if am_in ω (am_get ω l0.toNat 25) 100 l3 = true then (am_run (201, 0) 2 ([some (.inr (.inr l0)), some (.inl l1), some (.inl l2), some (.inl (am_w (l3 + 1)))], [], am_put ω (am_get ω l0.toNat 25).toNat l3.toNat 10000)) else none)) else none := by
  refine Eq.trans (rr_iload_n rfl rfl) ?_
  refine Eq.trans (rr_aload_n rfl rfl) ?_
  refine Eq.trans (rr_getfr rfl rfl rfl h1) ?_
  refine ck_it (fun h => rr_arraylength rfl rfl h) (fun h => rr_arraylength_no rfl rfl h) (fun h2 => ?_)
  refine Eq.trans (rr_icmp_ge rfl rfl) (it_cg (fun _ => ?_) (fun _ => ?_))
  · refine Eq.trans (rr_aload_n rfl rfl) ?_
    refine Eq.trans (rr_getfr rfl rfl rfl h1) ?_
    refine Eq.trans (rr_aload_n rfl rfl) ?_
    refine Eq.trans (rr_getfr rfl rfl rfl h1) ?_
    refine Eq.trans (rr_iload_n rfl rfl) ?_
    refine ck_it (fun h => rr_iaload rfl rfl h) (fun h => rr_iaload_no rfl rfl h) (fun h3 => ?_)
    refine Eq.trans (rr_aload_n rfl rfl) ?_
    refine Eq.trans (rr_getfr rfl rfl rfl h1) ?_
    refine Eq.trans (rr_iload_n rfl rfl) ?_
    refine ck_it (fun h => rr_iaload rfl rfl h) (fun h => rr_iaload_no rfl rfl h) (fun h4 => ?_)
    refine Eq.trans (rr_aload_n rfl rfl) ?_
    refine Eq.trans (rr_getfr rfl rfl rfl h1) ?_
    refine Eq.trans (rr_iload_n rfl rfl) ?_
    refine ck_it (fun h => rr_iaload rfl rfl h) (fun h => rr_iaload_no rfl rfl h) (fun h5 => ?_)
    refine Eq.trans (rr_iload_n rfl rfl) ?_
    refine Eq.trans (rr_invS2i (S' := [.inr (.inr (am_get ω l0.toNat 25))]) (L' := [some (.inl (am_get ω (am_get ω l0.toNat 8).toNat l1.toNat)), some (.inl (am_get ω (am_get ω l0.toNat 9).toNat l1.toNat)), some (.inl (am_get ω (am_get ω l0.toNat 11).toNat l1.toNat)), some (.inl l2)]) (m' := (200, 0)) rfl rfl rfl rfl rfl rfl) ?_
    refine bi_cg (fun z1 ω1 => ?_)
    refine Eq.trans (rr_iconst rfl rfl) ?_
    refine ck_it (fun h => rr_iastore rfl h) (fun h => rr_iastore_no rfl h) (fun h6 => ?_)
    exact rr_return rfl rfl
  · refine Eq.trans (rr_aload_n rfl rfl) ?_
    refine Eq.trans (rr_getfr rfl rfl rfl h1) ?_
    refine Eq.trans (rr_iload_n rfl rfl) ?_
    refine Eq.trans (rr_sipush rfl rfl) ?_
    refine ck_it (fun h => rr_iastore rfl h) (fun h => rr_iastore_no rfl h) (fun h7 => ?_)
    refine Eq.trans (rr_iinc (L' := [some (.inr (.inr l0)), some (.inl l1), some (.inl l2), some (.inl (am_w (l3 + 1)))]) rfl rfl rfl) ?_
    refine Eq.trans (rr_goto rfl rfl) ?_
    rfl
theorem pX7_better_0 (l0 l1 l2 l3 l4 l5 : Int) (ω : am_W) : am_run (202, 0) 0 ([some (.inr (.inr l0)), some (.inl l1), some (.inl l2), some (.inl l3), some (.inl l4), some (.inl l5), none], [], ω) = am_bi (am_run (200, 0) 0 ([some (.inl l1), some (.inl l2), some (.inl l3), some (.inl l4)], [], ω)) (fun z1 ω1 => if am_is ω1 l0 (7, 30) = true then (if am_in ω1 (am_get ω1 l0.toNat 26) 100 z1 = true then (if (am_get ω1 (am_get ω1 l0.toNat 26).toNat z1.toNat) ≤ l5 then (some (none, ω1)) else (some (none, am_put ω1 (am_get ω1 l0.toNat 26).toNat z1.toNat l5))) else none) else none) := by
  refine Eq.trans (rr_iload_n rfl rfl) ?_
  refine Eq.trans (rr_iload_n rfl rfl) ?_
  refine Eq.trans (rr_iload_n rfl rfl) ?_
  refine Eq.trans (rr_iload rfl rfl) ?_
  refine Eq.trans (rr_invS2i (S' := []) (L' := [some (.inl l1), some (.inl l2), some (.inl l3), some (.inl l4)]) (m' := (200, 0)) rfl rfl rfl rfl rfl rfl) ?_
  refine bi_cg (fun z1 ω1 => ?_)
  refine Eq.trans (rr_istore (L' := [some (.inr (.inr l0)), some (.inl l1), some (.inl l2), some (.inl l3), some (.inl l4), some (.inl l5), some (.inl z1)]) rfl rfl) ?_
  refine Eq.trans (rr_iload rfl rfl) ?_
  refine Eq.trans (rr_aload_n rfl rfl) ?_
  refine ck_it (fun h => rr_getfr rfl rfl rfl h) (fun h => rr_getfield_no rfl rfl h) (fun h1 => ?_)
  refine Eq.trans (rr_iload rfl rfl) ?_
  refine ck_it (fun h => rr_iaload rfl rfl h) (fun h => rr_iaload_no rfl rfl h) (fun h2 => ?_)
  refine Eq.trans (rr_icmp_ge rfl rfl) (it_cg (fun _ => ?_) (fun _ => ?_))
  · exact rr_return rfl rfl
  · refine Eq.trans (rr_aload_n rfl rfl) ?_
    refine Eq.trans (rr_getfr rfl rfl rfl h1) ?_
    refine Eq.trans (rr_iload rfl rfl) ?_
    refine Eq.trans (rr_iload rfl rfl) ?_
    refine Eq.trans (rr_iastore rfl h2) ?_
    exact rr_return rfl rfl
theorem pX7_goOn_0 (l0 l1 : Int) (ω : am_W) (h1 : am_is ω l0 (7, 30) = true) : am_run (203, 0) 0 ([some (.inr (.inr l0)), some (.inl l1), none, none, none, none, none, none, none], [], ω) = if am_in ω (am_get ω l0.toNat 7) 100 l1 = true then (if (am_get ω (am_get ω l0.toNat 7).toNat l1.toNat) = 2 then (am_run (203, 0) 38 ([some (.inr (.inr l0)), some (.inl l1), some (.inl 0), some (.inl 0), none, none, none, none, none], [], ω)) else (if (am_get ω (am_get ω l0.toNat 7).toNat l1.toNat) = 3 then (am_run (203, 0) 38 ([some (.inr (.inr l0)), some (.inl l1), some (.inl 0), some (.inl 0), none, none, none, none, none], [], ω)) else (if (am_get ω (am_get ω l0.toNat 7).toNat l1.toNat) = 4 then (am_run (203, 0) 38 ([some (.inr (.inr l0)), some (.inl l1), some (.inl 0), some (.inl 0), none, none, none, none, none], [], ω)) else (am_run (203, 0) 38 ([some (.inr (.inr l0)), some (.inl l1), some (.inl 1), some (.inl 0), none, none, none, none, none], [], ω))))) else none := by
  refine Eq.trans (rr_aload_n rfl rfl) ?_
  refine Eq.trans (rr_getfr rfl rfl rfl h1) ?_
  refine Eq.trans (rr_iload_n rfl rfl) ?_
  refine ck_it (fun h => rr_iaload rfl rfl h) (fun h => rr_iaload_no rfl rfl h) (fun h2 => ?_)
  refine Eq.trans (rr_iconst rfl rfl) ?_
  refine Eq.trans (rr_icmp_eq rfl rfl) (it_cg (fun _ => ?_) (fun _ => ?_))
  · refine Eq.trans (rr_iconst rfl rfl) ?_
    refine Eq.trans (rr_istore_n (L' := [some (.inr (.inr l0)), some (.inl l1), some (.inl 0), none, none, none, none, none, none]) rfl rfl) ?_
    refine Eq.trans (rr_iconst rfl rfl) ?_
    refine Eq.trans (rr_istore_n (L' := [some (.inr (.inr l0)), some (.inl l1), some (.inl 0), some (.inl 0), none, none, none, none, none]) rfl rfl) ?_
    rfl
  · refine Eq.trans (rr_aload_n rfl rfl) ?_
    refine Eq.trans (rr_getfr rfl rfl rfl h1) ?_
    refine Eq.trans (rr_iload_n rfl rfl) ?_
    refine Eq.trans (rr_iaload rfl rfl h2) ?_
    refine Eq.trans (rr_iconst rfl rfl) ?_
    refine Eq.trans (rr_icmp_eq rfl rfl) (it_cg (fun _ => ?_) (fun _ => ?_))
    · refine Eq.trans (rr_iconst rfl rfl) ?_
      refine Eq.trans (rr_istore_n (L' := [some (.inr (.inr l0)), some (.inl l1), some (.inl 0), none, none, none, none, none, none]) rfl rfl) ?_
      refine Eq.trans (rr_iconst rfl rfl) ?_
      refine Eq.trans (rr_istore_n (L' := [some (.inr (.inr l0)), some (.inl l1), some (.inl 0), some (.inl 0), none, none, none, none, none]) rfl rfl) ?_
      rfl
    · refine Eq.trans (rr_aload_n rfl rfl) ?_
      refine Eq.trans (rr_getfr rfl rfl rfl h1) ?_
      refine Eq.trans (rr_iload_n rfl rfl) ?_
      refine Eq.trans (rr_iaload rfl rfl h2) ?_
      refine Eq.trans (rr_iconst rfl rfl) ?_
      refine Eq.trans (rr_icmp_eq rfl rfl) (it_cg (fun _ => ?_) (fun _ => ?_))
      · refine Eq.trans (rr_iconst rfl rfl) ?_
        refine Eq.trans (rr_istore_n (L' := [some (.inr (.inr l0)), some (.inl l1), some (.inl 0), none, none, none, none, none, none]) rfl rfl) ?_
        refine Eq.trans (rr_iconst rfl rfl) ?_
        refine Eq.trans (rr_istore_n (L' := [some (.inr (.inr l0)), some (.inl l1), some (.inl 0), some (.inl 0), none, none, none, none, none]) rfl rfl) ?_
        rfl
      · refine Eq.trans (rr_iconst rfl rfl) ?_
        refine Eq.trans (rr_goto rfl rfl) ?_
        refine Eq.trans (rr_istore_n (L' := [some (.inr (.inr l0)), some (.inl l1), some (.inl 1), none, none, none, none, none, none]) rfl rfl) ?_
        refine Eq.trans (rr_iconst rfl rfl) ?_
        refine Eq.trans (rr_istore_n (L' := [some (.inr (.inr l0)), some (.inl l1), some (.inl 1), some (.inl 0), none, none, none, none, none]) rfl rfl) ?_
        rfl
theorem pX7_goOn_38 (l0 l1 l2 l3 : Int) (o4 o5 o6 o7 o8 : Option am_V) (ω : am_W) (h1 : am_is ω l0 (7, 30) = true) : am_run (203, 0) 38 ([some (.inr (.inr l0)), some (.inl l1), some (.inl l2), some (.inl l3), o4, o5, o6, o7, o8], [], ω) = if am_arl ω (am_get ω l0.toNat 26) = true then (if (am_len ω (am_get ω l0.toNat 26)) ≤ l3 then (am_run (203, 0) 64 ([some (.inr (.inr l0)), some (.inl l1), some (.inl l2), some (.inl 0), o4, o5, o6, o7, o8], [], ω)) else (if am_in ω (am_get ω l0.toNat 26) 100 l3 = true then (am_run (203, 0) 38 ([some (.inr (.inr l0)), some (.inl l1), some (.inl l2), some (.inl (am_w (l3 + 1))), o4, o5, o6, o7, o8], [], am_put ω (am_get ω l0.toNat 26).toNat l3.toNat 10000)) else none)) else none := by
  refine Eq.trans (rr_iload_n rfl rfl) ?_
  refine Eq.trans (rr_aload_n rfl rfl) ?_
  refine Eq.trans (rr_getfr rfl rfl rfl h1) ?_
  refine ck_it (fun h => rr_arraylength rfl rfl h) (fun h => rr_arraylength_no rfl rfl h) (fun h2 => ?_)
  refine Eq.trans (rr_icmp_ge rfl rfl) (it_cg (fun _ => ?_) (fun _ => ?_))
  · refine Eq.trans (rr_iconst rfl rfl) ?_
    refine Eq.trans (rr_istore_n (L' := [some (.inr (.inr l0)), some (.inl l1), some (.inl l2), some (.inl 0), o4, o5, o6, o7, o8]) rfl rfl) ?_
    rfl
  · refine Eq.trans (rr_aload_n rfl rfl) ?_
    refine Eq.trans (rr_getfr rfl rfl rfl h1) ?_
    refine Eq.trans (rr_iload_n rfl rfl) ?_
    refine Eq.trans (rr_sipush rfl rfl) ?_
    refine ck_it (fun h => rr_iastore rfl h) (fun h => rr_iastore_no rfl h) (fun h3 => ?_)
    refine Eq.trans (rr_iinc (L' := [some (.inr (.inr l0)), some (.inl l1), some (.inl l2), some (.inl (am_w (l3 + 1))), o4, o5, o6, o7, o8]) rfl rfl rfl) ?_
    refine Eq.trans (rr_goto rfl rfl) ?_
    rfl
theorem pX7_goOn_64 (l0 l1 l2 l3 : Int) (o4 o5 o6 o7 o8 : Option am_V) (ω : am_W) (h1 : am_is ω l0 (7, 30) = true) : am_run (203, 0) 64 ([some (.inr (.inr l0)), some (.inl l1), some (.inl l2), some (.inl l3), o4, o5, o6, o7, o8], [], ω) = if (am_get ω l0.toNat 3) ≤ l3 then (am_run (203, 0) 299 ([some (.inr (.inr l0)), some (.inl l1), some (.inl l2), some (.inl 0), o4, o5, o6, o7, o8], [], ω)) else (am_run (203, 0) 75 ([some (.inr (.inr l0)), some (.inl l1), some (.inl l2), some (.inl l3), some (.inl 0), o5, o6, o7, o8], [], ω)) := by
  refine Eq.trans (rr_iload_n rfl rfl) ?_
  refine Eq.trans (rr_aload_n rfl rfl) ?_
  refine Eq.trans (rr_getfi rfl rfl rfl h1) ?_
  refine Eq.trans (rr_icmp_ge rfl rfl) (it_cg (fun _ => ?_) (fun _ => ?_))
  · refine Eq.trans (rr_iconst rfl rfl) ?_
    refine Eq.trans (rr_istore_n (L' := [some (.inr (.inr l0)), some (.inl l1), some (.inl l2), some (.inl 0), o4, o5, o6, o7, o8]) rfl rfl) ?_
    rfl
  · refine Eq.trans (rr_iconst rfl rfl) ?_
    refine Eq.trans (rr_istore (L' := [some (.inr (.inr l0)), some (.inl l1), some (.inl l2), some (.inl l3), some (.inl 0), o5, o6, o7, o8]) rfl rfl) ?_
    rfl
theorem pX7_goOn_75 (l0 l1 l2 l3 l4 : Int) (o5 o6 o7 o8 : Option am_V) (ω : am_W) (h1 : am_is ω l0 (7, 30) = true) : am_run (203, 0) 75 ([some (.inr (.inr l0)), some (.inl l1), some (.inl l2), some (.inl l3), some (.inl l4), o5, o6, o7, o8], [], ω) = if am_in ω (am_get ω l0.toNat 4) 100 l3 = true then (if (am_get ω (am_get ω l0.toNat 4).toNat l3.toNat) ≤ l4 then (am_run (203, 0) 64 ([some (.inr (.inr l0)), some (.inl l1), some (.inl l2), some (.inl (am_w (l3 + 1))), some (.inl l4), o5, o6, o7, o8], [], ω)) else (am_run (203, 0) 89 ([some (.inr (.inr l0)), some (.inl l1), some (.inl l2), some (.inl l3), some (.inl l4), some (.inl 0), o6, o7, o8], [], ω))) else none := by
  refine Eq.trans (rr_iload rfl rfl) ?_
  refine Eq.trans (rr_aload_n rfl rfl) ?_
  refine Eq.trans (rr_getfr rfl rfl rfl h1) ?_
  refine Eq.trans (rr_iload_n rfl rfl) ?_
  refine ck_it (fun h => rr_iaload rfl rfl h) (fun h => rr_iaload_no rfl rfl h) (fun h2 => ?_)
  refine Eq.trans (rr_icmp_ge rfl rfl) (it_cg (fun _ => ?_) (fun _ => ?_))
  · refine Eq.trans (rr_iinc (L' := [some (.inr (.inr l0)), some (.inl l1), some (.inl l2), some (.inl (am_w (l3 + 1))), some (.inl l4), o5, o6, o7, o8]) rfl rfl rfl) ?_
    refine Eq.trans (rr_goto rfl rfl) ?_
    rfl
  · refine Eq.trans (rr_iconst rfl rfl) ?_
    refine Eq.trans (rr_istore (L' := [some (.inr (.inr l0)), some (.inl l1), some (.inl l2), some (.inl l3), some (.inl l4), some (.inl 0), o6, o7, o8]) rfl rfl) ?_
    rfl
theorem pX7_goOn_89 (l0 l1 l2 l3 l4 l5 : Int) (o6 o7 o8 : Option am_V) (ω : am_W) : am_run (203, 0) 89 ([some (.inr (.inr l0)), some (.inl l1), some (.inl l2), some (.inl l3), some (.inl l4), some (.inl l5), o6, o7, o8], [], ω) = if 11 ≤ l5 then (am_run (203, 0) 75 ([some (.inr (.inr l0)), some (.inl l1), some (.inl l2), some (.inl l3), some (.inl (am_w (l4 + 1))), some (.inl l5), o6, o7, o8], [], ω)) else (am_run (203, 0) 99 ([some (.inr (.inr l0)), some (.inl l1), some (.inl l2), some (.inl l3), some (.inl l4), some (.inl l5), some (.inl 0), o7, o8], [], ω)) := by
  refine Eq.trans (rr_iload rfl rfl) ?_
  refine Eq.trans (rr_bipush rfl rfl) ?_
  refine Eq.trans (rr_icmp_ge rfl rfl) (it_cg (fun _ => ?_) (fun _ => ?_))
  · refine Eq.trans (rr_iinc (L' := [some (.inr (.inr l0)), some (.inl l1), some (.inl l2), some (.inl l3), some (.inl (am_w (l4 + 1))), some (.inl l5), o6, o7, o8]) rfl rfl rfl) ?_
    refine Eq.trans (rr_goto rfl rfl) ?_
    rfl
  · refine Eq.trans (rr_iconst rfl rfl) ?_
    refine Eq.trans (rr_istore (L' := [some (.inr (.inr l0)), some (.inl l1), some (.inl l2), some (.inl l3), some (.inl l4), some (.inl l5), some (.inl 0), o7, o8]) rfl rfl) ?_
    rfl
theorem pX7_goOn_99 (l0 l1 l2 l3 l4 l5 l6 : Int) (o7 o8 : Option am_V) (ω : am_W) (h1 : am_is ω l0 (7, 30) = true) : am_run (203, 0) 99 ([some (.inr (.inr l0)), some (.inl l1), some (.inl l2), some (.inl l3), some (.inl l4), some (.inl l5), some (.inl l6), o7, o8], [], ω) = if 8 ≤ l6 then (am_run (203, 0) 89 ([some (.inr (.inr l0)), some (.inl l1), some (.inl l2), some (.inl l3), some (.inl l4), some (.inl (am_w (l5 + 1))), some (.inl l6), o7, o8], [], ω)) else (am_bi (am_run (200, 0) 0 ([some (.inl l3), some (.inl l4), some (.inl l5), some (.inl l6)], [], ω)) (fun z1 ω1 => if am_in ω1 (am_get ω l0.toNat 25) 100 z1 = true then (if ¬ (am_get ω1 (am_get ω l0.toNat 25).toNat z1.toNat) = 10000 then (if l5 ≤ 0 then (if am_is ω1 l0 (7, 30) = true then (if am_in ω1 (am_get ω1 l0.toNat 4) 100 l3 = true then (if (am_get ω1 (am_get ω1 l0.toNat 4).toNat l3.toNat) = 0 then none else (am_run (203, 0) 157 ([some (.inr (.inr l0)), some (.inl l1), some (.inl l2), some (.inl l3), some (.inl l4), some (.inl l5), some (.inl l6), some (.inl (am_get ω1 (am_get ω l0.toNat 25).toNat z1.toNat)), o8], [.inl ((am_w (l4 + 1)).tmod (am_get ω1 (am_get ω1 l0.toNat 4).toNat l3.toNat)), .inl l3, .inr (.inr l0)], ω1))) else none) else none) else (am_run (203, 0) 157 ([some (.inr (.inr l0)), some (.inl l1), some (.inl l2), some (.inl l3), some (.inl l4), some (.inl l5), some (.inl l6), some (.inl (am_get ω1 (am_get ω l0.toNat 25).toNat z1.toNat)), o8], [.inl l4, .inl l3, .inr (.inr l0)], ω1))) else (am_run (203, 0) 99 ([some (.inr (.inr l0)), some (.inl l1), some (.inl l2), some (.inl l3), some (.inl l4), some (.inl l5), some (.inl (am_w (l6 + 1))), some (.inl (am_get ω1 (am_get ω l0.toNat 25).toNat z1.toNat)), o8], [], ω1))) else none)) := by
  refine Eq.trans (rr_iload rfl rfl) ?_
  refine Eq.trans (rr_bipush rfl rfl) ?_
  refine Eq.trans (rr_icmp_ge rfl rfl) (it_cg (fun _ => ?_) (fun _ => ?_))
  · refine Eq.trans (rr_iinc (L' := [some (.inr (.inr l0)), some (.inl l1), some (.inl l2), some (.inl l3), some (.inl l4), some (.inl (am_w (l5 + 1))), some (.inl l6), o7, o8]) rfl rfl rfl) ?_
    refine Eq.trans (rr_goto rfl rfl) ?_
    rfl
  · refine Eq.trans (rr_aload_n rfl rfl) ?_
    refine Eq.trans (rr_getfr rfl rfl rfl h1) ?_
    refine Eq.trans (rr_iload_n rfl rfl) ?_
    refine Eq.trans (rr_iload rfl rfl) ?_
    refine Eq.trans (rr_iload rfl rfl) ?_
    refine Eq.trans (rr_iload rfl rfl) ?_
    refine Eq.trans (rr_invS2i (S' := [.inr (.inr (am_get ω l0.toNat 25))]) (L' := [some (.inl l3), some (.inl l4), some (.inl l5), some (.inl l6)]) (m' := (200, 0)) rfl rfl rfl rfl rfl rfl) ?_
    refine bi_cg (fun z1 ω1 => ?_)
    refine ck_it (fun h => rr_iaload rfl rfl h) (fun h => rr_iaload_no rfl rfl h) (fun h2 => ?_)
    refine Eq.trans (rr_istore (L' := [some (.inr (.inr l0)), some (.inl l1), some (.inl l2), some (.inl l3), some (.inl l4), some (.inl l5), some (.inl l6), some (.inl (am_get ω1 (am_get ω l0.toNat 25).toNat z1.toNat)), o8]) rfl rfl) ?_
    refine Eq.trans (rr_iload rfl rfl) ?_
    refine Eq.trans (rr_sipush rfl rfl) ?_
    refine Eq.trans (rr_icmp_ne rfl rfl) (it_cg (fun _ => ?_) (fun _ => ?_))
    · refine Eq.trans (rr_aload_n rfl rfl) ?_
      refine Eq.trans (rr_iload_n rfl rfl) ?_
      refine Eq.trans (rr_iload rfl rfl) ?_
      refine Eq.trans (rr_if_le rfl rfl) (it_cg (fun _ => ?_) (fun _ => ?_))
      · refine Eq.trans (rr_iload rfl rfl) ?_
        refine Eq.trans (rr_iconst rfl rfl) ?_
        refine Eq.trans (rr_iadd rfl) ?_
        refine Eq.trans (rr_aload_n rfl rfl) ?_
        refine ck_it (fun h => rr_getfr rfl rfl rfl h) (fun h => rr_getfield_no rfl rfl h) (fun h3 => ?_)
        refine Eq.trans (rr_iload_n rfl rfl) ?_
        refine ck_it (fun h => rr_iaload rfl rfl h) (fun h => rr_iaload_no rfl rfl h) (fun h4 => ?_)
        refine Eq.trans (rr_irem rfl) (it_cg (fun _ => rfl) (fun _ => ?_))
        rfl
      · refine Eq.trans (rr_iload rfl rfl) ?_
        refine Eq.trans (rr_goto rfl rfl) ?_
        rfl
    · refine Eq.trans (rr_goto rfl rfl) ?_
      refine Eq.trans (rr_iinc (L' := [some (.inr (.inr l0)), some (.inl l1), some (.inl l2), some (.inl l3), some (.inl l4), some (.inl l5), some (.inl (am_w (l6 + 1))), some (.inl (am_get ω1 (am_get ω l0.toNat 25).toNat z1.toNat)), o8]) rfl rfl rfl) ?_
      refine Eq.trans (rr_goto rfl rfl) ?_
      rfl
theorem pX7_goOn_157 (l0 l1 l2 l3 l4 l5 l6 l7 s0 s1 s2 : Int) (o8 : Option am_V) (ω : am_W) : am_run (203, 0) 157 ([some (.inr (.inr l0)), some (.inl l1), some (.inl l2), some (.inl l3), some (.inl l4), some (.inl l5), some (.inl l6), some (.inl l7), o8], [.inl s2, .inl s1, .inr (.inr s0)], ω) = am_bi (am_run (236, 0) 0 ([some (.inl 0), some (.inl (am_w (l5 - 1)))], [], ω)) (fun z1 ω1 => if am_is ω1 s0 (7, 30) = true then (am_bv (am_run (202, 0) 0 ([some (.inr (.inr s0)), some (.inl s1), some (.inl s2), some (.inl z1), some (.inl l6), some (.inl l7), none], [], ω1)) (fun ω2 => if 0 < l5 then (am_run (203, 0) 99 ([some (.inr (.inr l0)), some (.inl l1), some (.inl l2), some (.inl l3), some (.inl l4), some (.inl l5), some (.inl (am_w (l6 + 1))), some (.inl l7), o8], [], ω2)) else (if ¬ l2 = 0 then (if am_is ω2 l0 (7, 30) = true then (if am_in ω2 (am_get ω2 l0.toNat 4) 100 l3 = true then (am_bi (am_run (185, 0) 0 ([some (.inl (am_get ω2 (am_get ω2 l0.toNat 4).toNat l3.toNat))], [], ω2)) (fun z3 ω3 => if am_is ω3 l0 (7, 30) = true then (if (am_w ((am_get ω3 l0.toNat 3) - 1)) ≤ l3 then (am_run (203, 0) 237 ([some (.inr (.inr l0)), some (.inl l1), some (.inl l2), some (.inl l3), some (.inl l4), some (.inl l5), some (.inl l6), some (.inl l7), some (.inl (am_w (z3 - 1)))], [], ω3)) else (am_bi (am_run (186, 0) 0 ([some (.inr (.inr l0)), some (.inl l4), some (.inl l3), some (.inl (am_w (l3 + 1)))], [], ω3)) (fun z4 ω4 => if am_is ω4 l0 (7, 30) = true then (am_bi (am_run (184, 0) 0 ([some (.inr (.inr l0)), some (.inl l1), some (.inl l3)], [], ω4)) (fun z5 ω5 => if am_is ω5 l0 (7, 30) = true then (am_bv (am_run (202, 0) 0 ([some (.inr (.inr l0)), some (.inl (am_w (l3 + 1))), some (.inl z4), some (.inl (am_w (z3 - 1))), some (.inl l6), some (.inl (am_w (l7 + z5))), none], [], ω5)) (fun ω6 => am_run (203, 0) 237 ([some (.inr (.inr l0)), some (.inl l1), some (.inl l2), some (.inl l3), some (.inl l4), some (.inl l5), some (.inl l6), some (.inl l7), some (.inl (am_w (z3 - 1)))], [], ω6))) else none)) else none))) else none)) else none) else none) else (am_run (203, 0) 99 ([some (.inr (.inr l0)), some (.inl l1), some (.inl l2), some (.inl l3), some (.inl l4), some (.inl l5), some (.inl (am_w (l6 + 1))), some (.inl l7), o8], [], ω2))))) else none) := by
  refine Eq.trans (rr_iconst rfl rfl) ?_
  refine Eq.trans (rr_iload rfl rfl) ?_
  refine Eq.trans (rr_iconst rfl rfl) ?_
  refine Eq.trans (rr_isub rfl) ?_
  refine Eq.trans (rr_invS2i (S' := [.inl s2, .inl s1, .inr (.inr s0)]) (L' := [some (.inl 0), some (.inl (am_w (l5 - 1)))]) (m' := (236, 0)) rfl rfl rfl rfl rfl rfl) ?_
  refine bi_cg (fun z1 ω1 => ?_)
  refine Eq.trans (rr_iload rfl rfl) ?_
  refine Eq.trans (rr_iload rfl rfl) ?_
  refine ck_it (fun h => rr_invV0v (S' := []) (L' := [some (.inr (.inr s0)), some (.inl s1), some (.inl s2), some (.inl z1), some (.inl l6), some (.inl l7), none]) (m' := (202, 0)) rfl rfl rfl rfl rfl rfl h) (fun h => rr_invV0_no (S' := []) (L' := [some (.inr (.inr s0)), some (.inl s1), some (.inl s2), some (.inl z1), some (.inl l6), some (.inl l7), none]) (m' := (202, 0)) rfl rfl rfl rfl rfl rfl h) (fun h1 => ?_)
  refine bv_cg (fun ω2 => ?_)
  refine Eq.trans (rr_iload rfl rfl) ?_
  refine Eq.trans (rr_if_gt rfl rfl) (it_cg (fun _ => ?_) (fun _ => ?_))
  · refine Eq.trans (rr_iinc (L' := [some (.inr (.inr l0)), some (.inl l1), some (.inl l2), some (.inl l3), some (.inl l4), some (.inl l5), some (.inl (am_w (l6 + 1))), some (.inl l7), o8]) rfl rfl rfl) ?_
    refine Eq.trans (rr_goto rfl rfl) ?_
    rfl
  · refine Eq.trans (rr_iload_n rfl rfl) ?_
    refine Eq.trans (rr_if_ne rfl rfl) (it_cg (fun _ => ?_) (fun _ => ?_))
    · refine Eq.trans (rr_aload_n rfl rfl) ?_
      refine ck_it (fun h => rr_getfr rfl rfl rfl h) (fun h => rr_getfield_no rfl rfl h) (fun h2 => ?_)
      refine Eq.trans (rr_iload_n rfl rfl) ?_
      refine ck_it (fun h => rr_iaload rfl rfl h) (fun h => rr_iaload_no rfl rfl h) (fun h3 => ?_)
      refine Eq.trans (rr_invS2i (S' := []) (L' := [some (.inl (am_get ω2 (am_get ω2 l0.toNat 4).toNat l3.toNat))]) (m' := (185, 0)) rfl rfl rfl rfl rfl rfl) ?_
      refine bi_cg (fun z3 ω3 => ?_)
      refine Eq.trans (rr_iconst rfl rfl) ?_
      refine Eq.trans (rr_isub rfl) ?_
      refine Eq.trans (rr_istore (L' := [some (.inr (.inr l0)), some (.inl l1), some (.inl l2), some (.inl l3), some (.inl l4), some (.inl l5), some (.inl l6), some (.inl l7), some (.inl (am_w (z3 - 1)))]) rfl rfl) ?_
      refine Eq.trans (rr_iload_n rfl rfl) ?_
      refine Eq.trans (rr_aload_n rfl rfl) ?_
      refine ck_it (fun h => rr_getfi rfl rfl rfl h) (fun h => rr_getfield_no rfl rfl h) (fun h4 => ?_)
      refine Eq.trans (rr_iconst rfl rfl) ?_
      refine Eq.trans (rr_isub rfl) ?_
      refine Eq.trans (rr_icmp_ge rfl rfl) (it_cg (fun _ => ?_) (fun _ => ?_))
      · rfl
      · refine Eq.trans (rr_aload_n rfl rfl) ?_
        refine Eq.trans (rr_iload_n rfl rfl) ?_
        refine Eq.trans (rr_iconst rfl rfl) ?_
        refine Eq.trans (rr_iadd rfl) ?_
        refine Eq.trans (rr_aload_n rfl rfl) ?_
        refine Eq.trans (rr_iload rfl rfl) ?_
        refine Eq.trans (rr_iload_n rfl rfl) ?_
        refine Eq.trans (rr_iload_n rfl rfl) ?_
        refine Eq.trans (rr_iconst rfl rfl) ?_
        refine Eq.trans (rr_iadd rfl) ?_
        refine Eq.trans (rr_invV0i (S' := [.inl (am_w (l3 + 1)), .inr (.inr l0)]) (L' := [some (.inr (.inr l0)), some (.inl l4), some (.inl l3), some (.inl (am_w (l3 + 1)))]) (m' := (186, 0)) rfl rfl rfl rfl rfl rfl h4) ?_
        refine bi_cg (fun z4 ω4 => ?_)
        refine Eq.trans (rr_iload rfl rfl) ?_
        refine Eq.trans (rr_iload rfl rfl) ?_
        refine Eq.trans (rr_iload rfl rfl) ?_
        refine Eq.trans (rr_aload_n rfl rfl) ?_
        refine Eq.trans (rr_iload_n rfl rfl) ?_
        refine Eq.trans (rr_iload_n rfl rfl) ?_
        refine ck_it (fun h => rr_invV0i (S' := [.inl l7, .inl l6, .inl (am_w (z3 - 1)), .inl z4, .inl (am_w (l3 + 1)), .inr (.inr l0)]) (L' := [some (.inr (.inr l0)), some (.inl l1), some (.inl l3)]) (m' := (184, 0)) rfl rfl rfl rfl rfl rfl h) (fun h => rr_invV0_no (S' := [.inl l7, .inl l6, .inl (am_w (z3 - 1)), .inl z4, .inl (am_w (l3 + 1)), .inr (.inr l0)]) (L' := [some (.inr (.inr l0)), some (.inl l1), some (.inl l3)]) (m' := (184, 0)) rfl rfl rfl rfl rfl rfl h) (fun h5 => ?_)
        refine bi_cg (fun z5 ω5 => ?_)
        refine Eq.trans (rr_iadd rfl) ?_
        refine ck_it (fun h => rr_invV0v (S' := []) (L' := [some (.inr (.inr l0)), some (.inl (am_w (l3 + 1))), some (.inl z4), some (.inl (am_w (z3 - 1))), some (.inl l6), some (.inl (am_w (l7 + z5))), none]) (m' := (202, 0)) rfl rfl rfl rfl rfl rfl h) (fun h => rr_invV0_no (S' := []) (L' := [some (.inr (.inr l0)), some (.inl (am_w (l3 + 1))), some (.inl z4), some (.inl (am_w (z3 - 1))), some (.inl l6), some (.inl (am_w (l7 + z5))), none]) (m' := (202, 0)) rfl rfl rfl rfl rfl rfl h) (fun h6 => ?_)
        refine bv_cg (fun ω6 => ?_)
        rfl
    · refine Eq.trans (rr_goto rfl rfl) ?_
      refine Eq.trans (rr_iinc (L' := [some (.inr (.inr l0)), some (.inl l1), some (.inl l2), some (.inl l3), some (.inl l4), some (.inl l5), some (.inl (am_w (l6 + 1))), some (.inl l7), o8]) rfl rfl rfl) ?_
      refine Eq.trans (rr_goto rfl rfl) ?_
      rfl
theorem pX7_goOn_237 (l0 l1 l2 l3 l4 l5 l6 l7 l8 : Int) (ω : am_W) (h1 : am_is ω l0 (7, 30) = true) : am_run (203, 0) 237 ([some (.inr (.inr l0)), some (.inl l1), some (.inl l2), some (.inl l3), some (.inl l4), some (.inl l5), some (.inl l6), some (.inl l7), some (.inl l8)], [], ω) = if l3 ≤ 0 then (am_run (203, 0) 99 ([some (.inr (.inr l0)), some (.inl l1), some (.inl l2), some (.inl l3), some (.inl l4), some (.inl l5), some (.inl (am_w (l6 + 1))), some (.inl l7), some (.inl l8)], [], ω)) else (am_bi (am_run (186, 0) 0 ([some (.inr (.inr l0)), some (.inl l4), some (.inl l3), some (.inl (am_w (l3 - 1)))], [], ω)) (fun z1 ω1 => if am_is ω1 l0 (7, 30) = true then (am_bi (am_run (184, 0) 0 ([some (.inr (.inr l0)), some (.inl l1), some (.inl (am_w (l3 - 1)))], [], ω1)) (fun z2 ω2 => if am_is ω2 l0 (7, 30) = true then (am_bv (am_run (202, 0) 0 ([some (.inr (.inr l0)), some (.inl (am_w (l3 - 1))), some (.inl z1), some (.inl l8), some (.inl l6), some (.inl (am_w (l7 + z2))), none], [], ω2)) (fun ω3 => am_run (203, 0) 99 ([some (.inr (.inr l0)), some (.inl l1), some (.inl l2), some (.inl l3), some (.inl l4), some (.inl l5), some (.inl (am_w (l6 + 1))), some (.inl l7), some (.inl l8)], [], ω3))) else none)) else none)) := by
  refine Eq.trans (rr_iload_n rfl rfl) ?_
  refine Eq.trans (rr_if_le rfl rfl) (it_cg (fun _ => ?_) (fun _ => ?_))
  · refine Eq.trans (rr_iinc (L' := [some (.inr (.inr l0)), some (.inl l1), some (.inl l2), some (.inl l3), some (.inl l4), some (.inl l5), some (.inl (am_w (l6 + 1))), some (.inl l7), some (.inl l8)]) rfl rfl rfl) ?_
    refine Eq.trans (rr_goto rfl rfl) ?_
    rfl
  · refine Eq.trans (rr_aload_n rfl rfl) ?_
    refine Eq.trans (rr_iload_n rfl rfl) ?_
    refine Eq.trans (rr_iconst rfl rfl) ?_
    refine Eq.trans (rr_isub rfl) ?_
    refine Eq.trans (rr_aload_n rfl rfl) ?_
    refine Eq.trans (rr_iload rfl rfl) ?_
    refine Eq.trans (rr_iload_n rfl rfl) ?_
    refine Eq.trans (rr_iload_n rfl rfl) ?_
    refine Eq.trans (rr_iconst rfl rfl) ?_
    refine Eq.trans (rr_isub rfl) ?_
    refine Eq.trans (rr_invV0i (S' := [.inl (am_w (l3 - 1)), .inr (.inr l0)]) (L' := [some (.inr (.inr l0)), some (.inl l4), some (.inl l3), some (.inl (am_w (l3 - 1)))]) (m' := (186, 0)) rfl rfl rfl rfl rfl rfl h1) ?_
    refine bi_cg (fun z1 ω1 => ?_)
    refine Eq.trans (rr_iload rfl rfl) ?_
    refine Eq.trans (rr_iload rfl rfl) ?_
    refine Eq.trans (rr_iload rfl rfl) ?_
    refine Eq.trans (rr_aload_n rfl rfl) ?_
    refine Eq.trans (rr_iload_n rfl rfl) ?_
    refine Eq.trans (rr_iload_n rfl rfl) ?_
    refine Eq.trans (rr_iconst rfl rfl) ?_
    refine Eq.trans (rr_isub rfl) ?_
    refine ck_it (fun h => rr_invV0i (S' := [.inl l7, .inl l6, .inl l8, .inl z1, .inl (am_w (l3 - 1)), .inr (.inr l0)]) (L' := [some (.inr (.inr l0)), some (.inl l1), some (.inl (am_w (l3 - 1)))]) (m' := (184, 0)) rfl rfl rfl rfl rfl rfl h) (fun h => rr_invV0_no (S' := [.inl l7, .inl l6, .inl l8, .inl z1, .inl (am_w (l3 - 1)), .inr (.inr l0)]) (L' := [some (.inr (.inr l0)), some (.inl l1), some (.inl (am_w (l3 - 1)))]) (m' := (184, 0)) rfl rfl rfl rfl rfl rfl h) (fun h2 => ?_)
    refine bi_cg (fun z2 ω2 => ?_)
    refine Eq.trans (rr_iadd rfl) ?_
    refine ck_it (fun h => rr_invV0v (S' := []) (L' := [some (.inr (.inr l0)), some (.inl (am_w (l3 - 1))), some (.inl z1), some (.inl l8), some (.inl l6), some (.inl (am_w (l7 + z2))), none]) (m' := (202, 0)) rfl rfl rfl rfl rfl rfl h) (fun h => rr_invV0_no (S' := []) (L' := [some (.inr (.inr l0)), some (.inl (am_w (l3 - 1))), some (.inl z1), some (.inl l8), some (.inl l6), some (.inl (am_w (l7 + z2))), none]) (m' := (202, 0)) rfl rfl rfl rfl rfl rfl h) (fun h3 => ?_)
    refine bv_cg (fun ω3 => ?_)
    refine Eq.trans (rr_iinc (L' := [some (.inr (.inr l0)), some (.inl l1), some (.inl l2), some (.inl l3), some (.inl l4), some (.inl l5), some (.inl (am_w (l6 + 1))), some (.inl l7), some (.inl l8)]) rfl rfl rfl) ?_
    refine Eq.trans (rr_goto rfl rfl) ?_
    rfl
theorem pX7_goOn_299 (l0 l1 l2 l3 : Int) (o4 o5 o6 o7 o8 : Option am_V) (ω : am_W) (h1 : am_is ω l0 (7, 30) = true) : am_run (203, 0) 299 ([some (.inr (.inr l0)), some (.inl l1), some (.inl l2), some (.inl l3), o4, o5, o6, o7, o8], [], ω) = if am_arl ω (am_get ω l0.toNat 25) = true then (if (am_len ω (am_get ω l0.toNat 25)) ≤ l3 then (some (none, ω)) else (if am_in ω (am_get ω l0.toNat 26) 100 l3 = true then (if am_in ω (am_get ω l0.toNat 25) 100 l3 = true then (am_run (203, 0) 299 ([some (.inr (.inr l0)), some (.inl l1), some (.inl l2), some (.inl (am_w (l3 + 1))), o4, o5, o6, o7, o8], [], am_put ω (am_get ω l0.toNat 25).toNat l3.toNat (am_get ω (am_get ω l0.toNat 26).toNat l3.toNat))) else none) else none)) else none := by
  refine Eq.trans (rr_iload_n rfl rfl) ?_
  refine Eq.trans (rr_aload_n rfl rfl) ?_
  refine Eq.trans (rr_getfr rfl rfl rfl h1) ?_
  refine ck_it (fun h => rr_arraylength rfl rfl h) (fun h => rr_arraylength_no rfl rfl h) (fun h2 => ?_)
  refine Eq.trans (rr_icmp_ge rfl rfl) (it_cg (fun _ => ?_) (fun _ => ?_))
  · exact rr_return rfl rfl
  · refine Eq.trans (rr_aload_n rfl rfl) ?_
    refine Eq.trans (rr_getfr rfl rfl rfl h1) ?_
    refine Eq.trans (rr_iload_n rfl rfl) ?_
    refine Eq.trans (rr_aload_n rfl rfl) ?_
    refine Eq.trans (rr_getfr rfl rfl rfl h1) ?_
    refine Eq.trans (rr_iload_n rfl rfl) ?_
    refine ck_it (fun h => rr_iaload rfl rfl h) (fun h => rr_iaload_no rfl rfl h) (fun h3 => ?_)
    refine ck_it (fun h => rr_iastore rfl h) (fun h => rr_iastore_no rfl h) (fun h4 => ?_)
    refine Eq.trans (rr_iinc (L' := [some (.inr (.inr l0)), some (.inl l1), some (.inl l2), some (.inl (am_w (l3 + 1))), o4, o5, o6, o7, o8]) rfl rfl rfl) ?_
    refine Eq.trans (rr_goto rfl rfl) ?_
    rfl
theorem pX7_placeAt_0 (l0 l1 l2 : Int) (ω : am_W) (h1 : am_is ω l0 (7, 30) = true) : am_run (204, 0) 0 ([some (.inr (.inr l0)), some (.inl l1), some (.inl l2)], [], ω) = if am_in ω (am_get ω l0.toNat 11) 100 l1 = true then (if (am_get ω (am_get ω l0.toNat 11).toNat l1.toNat) ≤ l2 then (if am_in ω (am_get ω l0.toNat 9) 100 l1 = true then (if am_in ω (am_get ω l0.toNat 8) 100 l1 = true then (if am_in ω (am_get ω l0.toNat 4) 100 (am_get ω (am_get ω l0.toNat 8).toNat l1.toNat) = true then (if (am_get ω (am_get ω l0.toNat 4).toNat (am_get ω (am_get ω l0.toNat 8).toNat l1.toNat).toNat) = 0 then none else (some (some (.inl ((am_w ((am_w ((am_get ω (am_get ω l0.toNat 9).toNat l1.toNat) + l2)) - (am_get ω (am_get ω l0.toNat 11).toNat l1.toNat))).tmod (am_get ω (am_get ω l0.toNat 4).toNat (am_get ω (am_get ω l0.toNat 8).toNat l1.toNat).toNat))), ω))) else none) else none) else none) else (some (some (.inl ((-1))), ω))) else none := by
  refine Eq.trans (rr_iload_n rfl rfl) ?_
  refine Eq.trans (rr_aload_n rfl rfl) ?_
  refine Eq.trans (rr_getfr rfl rfl rfl h1) ?_
  refine Eq.trans (rr_iload_n rfl rfl) ?_
  refine ck_it (fun h => rr_iaload rfl rfl h) (fun h => rr_iaload_no rfl rfl h) (fun h2 => ?_)
  refine Eq.trans (rr_icmp_ge rfl rfl) (it_cg (fun _ => ?_) (fun _ => ?_))
  · refine Eq.trans (rr_aload_n rfl rfl) ?_
    refine Eq.trans (rr_getfr rfl rfl rfl h1) ?_
    refine Eq.trans (rr_iload_n rfl rfl) ?_
    refine ck_it (fun h => rr_iaload rfl rfl h) (fun h => rr_iaload_no rfl rfl h) (fun h3 => ?_)
    refine Eq.trans (rr_iload_n rfl rfl) ?_
    refine Eq.trans (rr_iadd rfl) ?_
    refine Eq.trans (rr_aload_n rfl rfl) ?_
    refine Eq.trans (rr_getfr rfl rfl rfl h1) ?_
    refine Eq.trans (rr_iload_n rfl rfl) ?_
    refine Eq.trans (rr_iaload rfl rfl h2) ?_
    refine Eq.trans (rr_isub rfl) ?_
    refine Eq.trans (rr_aload_n rfl rfl) ?_
    refine Eq.trans (rr_getfr rfl rfl rfl h1) ?_
    refine Eq.trans (rr_aload_n rfl rfl) ?_
    refine Eq.trans (rr_getfr rfl rfl rfl h1) ?_
    refine Eq.trans (rr_iload_n rfl rfl) ?_
    refine ck_it (fun h => rr_iaload rfl rfl h) (fun h => rr_iaload_no rfl rfl h) (fun h4 => ?_)
    refine ck_it (fun h => rr_iaload rfl rfl h) (fun h => rr_iaload_no rfl rfl h) (fun h5 => ?_)
    refine Eq.trans (rr_irem rfl) (it_cg (fun _ => rfl) (fun _ => ?_))
    exact rr_ireturn rfl rfl
  · refine Eq.trans (rr_iconst rfl rfl) ?_
    refine Eq.trans (rr_goto rfl rfl) ?_
    exact rr_ireturn rfl rfl
theorem pX7_least_0 (l0 l1 l2 l3 l4 l5 : Int) (ω : am_W) (h1 : am_is ω l0 (7, 30) = true) : am_run (205, 0) 0 ([some (.inr (.inr l0)), some (.inl l1), some (.inl l2), some (.inl l3), some (.inl l4), some (.inl l5), none, none, none, none], [], ω) = am_bv (am_run (201, 0) 0 ([some (.inr (.inr l0)), some (.inl l1), some (.inl 0), none], [], ω)) (fun ω1 => am_run (205, 0) 14 ([some (.inr (.inr l0)), some (.inl l1), some (.inl l2), some (.inl l3), some (.inl l4), some (.inl l5), some (.inl 10000), some (.inl 0), none, none], [], ω1)) := by
  refine Eq.trans (rr_sipush rfl rfl) ?_
  refine Eq.trans (rr_istore (L' := [some (.inr (.inr l0)), some (.inl l1), some (.inl l2), some (.inl l3), some (.inl l4), some (.inl l5), some (.inl 10000), none, none, none]) rfl rfl) ?_
  refine Eq.trans (rr_aload_n rfl rfl) ?_
  refine Eq.trans (rr_iload_n rfl rfl) ?_
  refine Eq.trans (rr_iconst rfl rfl) ?_
  refine Eq.trans (rr_invV0v (S' := []) (L' := [some (.inr (.inr l0)), some (.inl l1), some (.inl 0), none]) (m' := (201, 0)) rfl rfl rfl rfl rfl rfl h1) ?_
  refine bv_cg (fun ω1 => ?_)
  refine Eq.trans (rr_iconst rfl rfl) ?_
  refine Eq.trans (rr_istore (L' := [some (.inr (.inr l0)), some (.inl l1), some (.inl l2), some (.inl l3), some (.inl l4), some (.inl l5), some (.inl 10000), some (.inl 0), none, none]) rfl rfl) ?_
  rfl
theorem pX7_least_14 (l0 l1 l2 l3 l4 l5 l6 l7 : Int) (o8 o9 : Option am_V) (ω : am_W) (h1 : am_is ω l0 (7, 30) = true) : am_run (205, 0) 14 ([some (.inr (.inr l0)), some (.inl l1), some (.inl l2), some (.inl l3), some (.inl l4), some (.inl l5), some (.inl l6), some (.inl l7), o8, o9], [], ω) = if l3 < l7 then (some (some (.inl l6), ω)) else (if l7 ≤ 0 then (am_run (205, 0) 30 ([some (.inr (.inr l0)), some (.inl l1), some (.inl l2), some (.inl l3), some (.inl l4), some (.inl l5), some (.inl l6), some (.inl l7), o8, o9], [], ω)) else (am_bv (am_run (203, 0) 0 ([some (.inr (.inr l0)), some (.inl l1), none, none, none, none, none, none, none], [], ω)) (fun ω1 => am_run (205, 0) 30 ([some (.inr (.inr l0)), some (.inl l1), some (.inl l2), some (.inl l3), some (.inl l4), some (.inl l5), some (.inl l6), some (.inl l7), o8, o9], [], ω1)))) := by
  refine Eq.trans (rr_iload rfl rfl) ?_
  refine Eq.trans (rr_iload_n rfl rfl) ?_
  refine Eq.trans (rr_icmp_gt rfl rfl) (it_cg (fun _ => ?_) (fun _ => ?_))
  · refine Eq.trans (rr_iload rfl rfl) ?_
    exact rr_ireturn rfl rfl
  · refine Eq.trans (rr_iload rfl rfl) ?_
    refine Eq.trans (rr_if_le rfl rfl) (it_cg (fun _ => ?_) (fun _ => ?_))
    · rfl
    · refine Eq.trans (rr_aload_n rfl rfl) ?_
      refine Eq.trans (rr_iload_n rfl rfl) ?_
      refine Eq.trans (rr_invV0v (S' := []) (L' := [some (.inr (.inr l0)), some (.inl l1), none, none, none, none, none, none, none]) (m' := (203, 0)) rfl rfl rfl rfl rfl rfl h1) ?_
      refine bv_cg (fun ω1 => ?_)
      rfl
theorem pX7_least_30 (l0 l1 l2 l3 l4 l5 l6 l7 : Int) (o8 o9 : Option am_V) (ω : am_W) (h1 : am_is ω l0 (7, 30) = true) : am_run (205, 0) 30 ([some (.inr (.inr l0)), some (.inl l1), some (.inl l2), some (.inl l3), some (.inl l4), some (.inl l5), some (.inl l6), some (.inl l7), o8, o9], [], ω) = am_bi (am_run (204, 0) 0 ([some (.inr (.inr l0)), some (.inl l2), some (.inl l7)], [], ω)) (fun z1 ω1 => if ¬ z1 = ((-1)) then (if am_is ω1 l0 (7, 30) = true then (if am_in ω1 (am_get ω1 l0.toNat 8) 100 l2 = true then (am_bi (am_run (200, 0) 0 ([some (.inl (am_get ω1 (am_get ω1 l0.toNat 8).toNat l2.toNat)), some (.inl z1), some (.inl 0), some (.inl 0)], [], ω1)) (fun z2 ω2 => if am_in ω2 (am_get ω1 l0.toNat 25) 100 z2 = true then (am_run (205, 0) 69 ([some (.inr (.inr l0)), some (.inl l1), some (.inl l2), some (.inl l3), some (.inl l4), some (.inl l5), some (.inl l6), some (.inl l7), some (.inl z1), o9], [.inl (am_get ω2 (am_get ω1 l0.toNat 25).toNat z2.toNat)], ω2)) else none)) else none) else none) else (am_run (205, 0) 69 ([some (.inr (.inr l0)), some (.inl l1), some (.inl l2), some (.inl l3), some (.inl l4), some (.inl l5), some (.inl l6), some (.inl l7), some (.inl z1), o9], [.inl 10000], ω1))) := by
  refine Eq.trans (rr_aload_n rfl rfl) ?_
  refine Eq.trans (rr_iload_n rfl rfl) ?_
  refine Eq.trans (rr_iload rfl rfl) ?_
  refine Eq.trans (rr_invV0i (S' := []) (L' := [some (.inr (.inr l0)), some (.inl l2), some (.inl l7)]) (m' := (204, 0)) rfl rfl rfl rfl rfl rfl h1) ?_
  refine bi_cg (fun z1 ω1 => ?_)
  refine Eq.trans (rr_istore (L' := [some (.inr (.inr l0)), some (.inl l1), some (.inl l2), some (.inl l3), some (.inl l4), some (.inl l5), some (.inl l6), some (.inl l7), some (.inl z1), o9]) rfl rfl) ?_
  refine Eq.trans (rr_iload rfl rfl) ?_
  refine Eq.trans (rr_iconst rfl rfl) ?_
  refine Eq.trans (rr_icmp_ne rfl rfl) (it_cg (fun _ => ?_) (fun _ => ?_))
  · refine Eq.trans (rr_aload_n rfl rfl) ?_
    refine ck_it (fun h => rr_getfr rfl rfl rfl h) (fun h => rr_getfield_no rfl rfl h) (fun h2 => ?_)
    refine Eq.trans (rr_aload_n rfl rfl) ?_
    refine Eq.trans (rr_getfr rfl rfl rfl h2) ?_
    refine Eq.trans (rr_iload_n rfl rfl) ?_
    refine ck_it (fun h => rr_iaload rfl rfl h) (fun h => rr_iaload_no rfl rfl h) (fun h3 => ?_)
    refine Eq.trans (rr_iload rfl rfl) ?_
    refine Eq.trans (rr_iconst rfl rfl) ?_
    refine Eq.trans (rr_iconst rfl rfl) ?_
    refine Eq.trans (rr_invS2i (S' := [.inr (.inr (am_get ω1 l0.toNat 25))]) (L' := [some (.inl (am_get ω1 (am_get ω1 l0.toNat 8).toNat l2.toNat)), some (.inl z1), some (.inl 0), some (.inl 0)]) (m' := (200, 0)) rfl rfl rfl rfl rfl rfl) ?_
    refine bi_cg (fun z2 ω2 => ?_)
    refine ck_it (fun h => rr_iaload rfl rfl h) (fun h => rr_iaload_no rfl rfl h) (fun h4 => ?_)
    rfl
  · refine Eq.trans (rr_sipush rfl rfl) ?_
    refine Eq.trans (rr_goto rfl rfl) ?_
    rfl
theorem pX7_least_69 (l0 l1 l2 l3 l4 l5 l6 l7 l8 s0 : Int) (o9 : Option am_V) (ω : am_W) : am_run (205, 0) 69 ([some (.inr (.inr l0)), some (.inl l1), some (.inl l2), some (.inl l3), some (.inl l4), some (.inl l5), some (.inl l6), some (.inl l7), some (.inl l8), o9], [.inl s0], ω) = if s0 ≤ l4 then (am_bi (am_run (237, 0) 0 ([some (.inl l6), some (.inl s0)], [], ω)) (fun z1 ω1 => if ¬ l5 = 0 then (if am_is ω1 l0 (7, 30) = true then (some (some (.inl z1), am_put ω1 l0.toNat 29 l7)) else none) else (am_run (205, 0) 14 ([some (.inr (.inr l0)), some (.inl l1), some (.inl l2), some (.inl l3), some (.inl l4), some (.inl l5), some (.inl z1), some (.inl (am_w (l7 + 1))), some (.inl l8), some (.inl s0)], [], ω1)))) else (am_run (205, 0) 14 ([some (.inr (.inr l0)), some (.inl l1), some (.inl l2), some (.inl l3), some (.inl l4), some (.inl l5), some (.inl l6), some (.inl (am_w (l7 + 1))), some (.inl l8), some (.inl s0)], [], ω)) := by
  refine Eq.trans (rr_istore (L' := [some (.inr (.inr l0)), some (.inl l1), some (.inl l2), some (.inl l3), some (.inl l4), some (.inl l5), some (.inl l6), some (.inl l7), some (.inl l8), some (.inl s0)]) rfl rfl) ?_
  refine Eq.trans (rr_iload rfl rfl) ?_
  refine Eq.trans (rr_iload rfl rfl) ?_
  refine Eq.trans (rr_icmp_le rfl rfl) (it_cg (fun _ => ?_) (fun _ => ?_))
  · refine Eq.trans (rr_iload rfl rfl) ?_
    refine Eq.trans (rr_iload rfl rfl) ?_
    refine Eq.trans (rr_invS2i (S' := []) (L' := [some (.inl l6), some (.inl s0)]) (m' := (237, 0)) rfl rfl rfl rfl rfl rfl) ?_
    refine bi_cg (fun z1 ω1 => ?_)
    refine Eq.trans (rr_istore (L' := [some (.inr (.inr l0)), some (.inl l1), some (.inl l2), some (.inl l3), some (.inl l4), some (.inl l5), some (.inl z1), some (.inl l7), some (.inl l8), some (.inl s0)]) rfl rfl) ?_
    refine Eq.trans (rr_iload rfl rfl) ?_
    refine Eq.trans (rr_if_ne rfl rfl) (it_cg (fun _ => ?_) (fun _ => ?_))
    · refine Eq.trans (rr_aload_n rfl rfl) ?_
      refine Eq.trans (rr_iload rfl rfl) ?_
      refine ck_it (fun h => rr_putfieldi rfl rfl rfl h) (fun h => rr_putfieldi_no rfl rfl h) (fun h1 => ?_)
      refine Eq.trans (rr_iload rfl rfl) ?_
      exact rr_ireturn rfl rfl
    · refine Eq.trans (rr_goto rfl rfl) ?_
      refine Eq.trans (rr_iinc (L' := [some (.inr (.inr l0)), some (.inl l1), some (.inl l2), some (.inl l3), some (.inl l4), some (.inl l5), some (.inl z1), some (.inl (am_w (l7 + 1))), some (.inl l8), some (.inl s0)]) rfl rfl rfl) ?_
      refine Eq.trans (rr_goto rfl rfl) ?_
      rfl
  · refine Eq.trans (rr_goto rfl rfl) ?_
    refine Eq.trans (rr_iinc (L' := [some (.inr (.inr l0)), some (.inl l1), some (.inl l2), some (.inl l3), some (.inl l4), some (.inl l5), some (.inl l6), some (.inl (am_w (l7 + 1))), some (.inl l8), some (.inl s0)]) rfl rfl rfl) ?_
    refine Eq.trans (rr_goto rfl rfl) ?_
    rfl
theorem pX7_cheapest_0 (l0 l1 l2 l3 : Int) (ω : am_W) (h1 : am_is ω l0 (7, 30) = true) : am_run (206, 0) 0 ([some (.inr (.inr l0)), some (.inl l1), some (.inl l2), some (.inl l3), none], [], ω) = am_bi (am_run (152, 0) 0 ([some (.inr (.inr l0)), some (.inl l1), some (.inl l2)], [], ω)) (fun z1 ω1 => if z1 = 0 then (if am_is ω1 l0 (7, 30) = true then (am_bi (am_run (148, 0) 0 ([some (.inr (.inr l0)), some (.inl ((-2)))], [], ω1)) (fun z2 ω2 => some (some (.inl z2), ω2))) else none) else (am_bi (am_run (149, 0) 0 ([some (.inl l3), some (.inl 0), some (.inl 60)], [], ω1)) (fun z3 ω3 => if ¬ z3 = 0 then (if am_is ω3 l0 (7, 30) = true then (am_bi (am_run (205, 0) 0 ([some (.inr (.inr l0)), some (.inl l1), some (.inl l2), some (.inl l3), some (.inl 9999), some (.inl 0), none, none, none, none], [], ω3)) (fun z4 ω4 => if ¬ z4 = 10000 then (some (some (.inl z4), ω4)) else (some (some (.inl ((-1))), ω4)))) else none) else (if am_is ω3 l0 (7, 30) = true then (am_bi (am_run (148, 0) 0 ([some (.inr (.inr l0)), some (.inl ((-2)))], [], ω3)) (fun z5 ω5 => some (some (.inl z5), ω5))) else none)))) := by
  refine Eq.trans (rr_aload_n rfl rfl) ?_
  refine Eq.trans (rr_iload_n rfl rfl) ?_
  refine Eq.trans (rr_iload_n rfl rfl) ?_
  refine Eq.trans (rr_invV0i (S' := []) (L' := [some (.inr (.inr l0)), some (.inl l1), some (.inl l2)]) (m' := (152, 0)) rfl rfl rfl rfl rfl rfl h1) ?_
  refine bi_cg (fun z1 ω1 => ?_)
  refine Eq.trans (rr_if_eq rfl rfl) (it_cg (fun _ => ?_) (fun _ => ?_))
  · refine Eq.trans (rr_aload_n rfl rfl) ?_
    refine Eq.trans (rr_bipush rfl rfl) ?_
    refine ck_it (fun h => rr_invV0i (S' := []) (L' := [some (.inr (.inr l0)), some (.inl ((-2)))]) (m' := (148, 0)) rfl rfl rfl rfl rfl rfl h) (fun h => rr_invV0_no (S' := []) (L' := [some (.inr (.inr l0)), some (.inl ((-2)))]) (m' := (148, 0)) rfl rfl rfl rfl rfl rfl h) (fun h2 => ?_)
    refine bi_cg (fun z2 ω2 => ?_)
    exact rr_ireturn rfl rfl
  · refine Eq.trans (rr_iload_n rfl rfl) ?_
    refine Eq.trans (rr_iconst rfl rfl) ?_
    refine Eq.trans (rr_bipush rfl rfl) ?_
    refine Eq.trans (rr_invS2i (S' := []) (L' := [some (.inl l3), some (.inl 0), some (.inl 60)]) (m' := (149, 0)) rfl rfl rfl rfl rfl rfl) ?_
    refine bi_cg (fun z3 ω3 => ?_)
    refine Eq.trans (rr_if_ne rfl rfl) (it_cg (fun _ => ?_) (fun _ => ?_))
    · refine Eq.trans (rr_aload_n rfl rfl) ?_
      refine Eq.trans (rr_iload_n rfl rfl) ?_
      refine Eq.trans (rr_iload_n rfl rfl) ?_
      refine Eq.trans (rr_iload_n rfl rfl) ?_
      refine Eq.trans (rr_sipush rfl rfl) ?_
      refine Eq.trans (rr_iconst rfl rfl) ?_
      refine ck_it (fun h => rr_invV0i (S' := []) (L' := [some (.inr (.inr l0)), some (.inl l1), some (.inl l2), some (.inl l3), some (.inl 9999), some (.inl 0), none, none, none, none]) (m' := (205, 0)) rfl rfl rfl rfl rfl rfl h) (fun h => rr_invV0_no (S' := []) (L' := [some (.inr (.inr l0)), some (.inl l1), some (.inl l2), some (.inl l3), some (.inl 9999), some (.inl 0), none, none, none, none]) (m' := (205, 0)) rfl rfl rfl rfl rfl rfl h) (fun h3 => ?_)
      refine bi_cg (fun z4 ω4 => ?_)
      refine Eq.trans (rr_istore (L' := [some (.inr (.inr l0)), some (.inl l1), some (.inl l2), some (.inl l3), some (.inl z4)]) rfl rfl) ?_
      refine Eq.trans (rr_iload rfl rfl) ?_
      refine Eq.trans (rr_sipush rfl rfl) ?_
      refine Eq.trans (rr_icmp_ne rfl rfl) (it_cg (fun _ => ?_) (fun _ => ?_))
      · refine Eq.trans (rr_iload rfl rfl) ?_
        exact rr_ireturn rfl rfl
      · refine Eq.trans (rr_iconst rfl rfl) ?_
        refine Eq.trans (rr_goto rfl rfl) ?_
        exact rr_ireturn rfl rfl
    · refine Eq.trans (rr_aload_n rfl rfl) ?_
      refine Eq.trans (rr_bipush rfl rfl) ?_
      refine ck_it (fun h => rr_invV0i (S' := []) (L' := [some (.inr (.inr l0)), some (.inl ((-2)))]) (m' := (148, 0)) rfl rfl rfl rfl rfl rfl h) (fun h => rr_invV0_no (S' := []) (L' := [some (.inr (.inr l0)), some (.inl ((-2)))]) (m' := (148, 0)) rfl rfl rfl rfl rfl rfl h) (fun h4 => ?_)
      refine bi_cg (fun z5 ω5 => ?_)
      exact rr_ireturn rfl rfl
theorem pX7_soonest_0 (l0 l1 l2 : Int) (ω : am_W) (h1 : am_is ω l0 (7, 30) = true) : am_run (207, 0) 0 ([some (.inr (.inr l0)), some (.inl l1), some (.inl l2)], [], ω) = am_bi (am_run (152, 0) 0 ([some (.inr (.inr l0)), some (.inl l1), some (.inl l2)], [], ω)) (fun z1 ω1 => if ¬ z1 = 0 then (if am_is ω1 l0 (7, 30) = true then (if am_in ω1 (am_get ω1 l0.toNat 10) 100 l1 = true then (am_bi (am_run (205, 0) 0 ([some (.inr (.inr l0)), some (.inl l1), some (.inl l2), some (.inl 60), some (.inl (am_get ω1 (am_get ω1 l0.toNat 10).toNat l1.toNat)), some (.inl 1), none, none, none, none], [], ω1)) (fun z2 ω2 => if ¬ z2 = 10000 then (if am_is ω2 l0 (7, 30) = true then (some (some (.inl (am_get ω2 l0.toNat 29)), ω2)) else none) else (some (some (.inl ((-1))), ω2)))) else none) else none) else (if am_is ω1 l0 (7, 30) = true then (am_bi (am_run (148, 0) 0 ([some (.inr (.inr l0)), some (.inl ((-2)))], [], ω1)) (fun z3 ω3 => some (some (.inl z3), ω3))) else none)) := by
  refine Eq.trans (rr_aload_n rfl rfl) ?_
  refine Eq.trans (rr_iload_n rfl rfl) ?_
  refine Eq.trans (rr_iload_n rfl rfl) ?_
  refine Eq.trans (rr_invV0i (S' := []) (L' := [some (.inr (.inr l0)), some (.inl l1), some (.inl l2)]) (m' := (152, 0)) rfl rfl rfl rfl rfl rfl h1) ?_
  refine bi_cg (fun z1 ω1 => ?_)
  refine Eq.trans (rr_if_ne rfl rfl) (it_cg (fun _ => ?_) (fun _ => ?_))
  · refine Eq.trans (rr_aload_n rfl rfl) ?_
    refine Eq.trans (rr_iload_n rfl rfl) ?_
    refine Eq.trans (rr_iload_n rfl rfl) ?_
    refine Eq.trans (rr_bipush rfl rfl) ?_
    refine Eq.trans (rr_aload_n rfl rfl) ?_
    refine ck_it (fun h => rr_getfr rfl rfl rfl h) (fun h => rr_getfield_no rfl rfl h) (fun h2 => ?_)
    refine Eq.trans (rr_iload_n rfl rfl) ?_
    refine ck_it (fun h => rr_iaload rfl rfl h) (fun h => rr_iaload_no rfl rfl h) (fun h3 => ?_)
    refine Eq.trans (rr_iconst rfl rfl) ?_
    refine Eq.trans (rr_invV0i (S' := []) (L' := [some (.inr (.inr l0)), some (.inl l1), some (.inl l2), some (.inl 60), some (.inl (am_get ω1 (am_get ω1 l0.toNat 10).toNat l1.toNat)), some (.inl 1), none, none, none, none]) (m' := (205, 0)) rfl rfl rfl rfl rfl rfl h2) ?_
    refine bi_cg (fun z2 ω2 => ?_)
    refine Eq.trans (rr_sipush rfl rfl) ?_
    refine Eq.trans (rr_icmp_ne rfl rfl) (it_cg (fun _ => ?_) (fun _ => ?_))
    · refine Eq.trans (rr_aload_n rfl rfl) ?_
      refine ck_it (fun h => rr_getfi rfl rfl rfl h) (fun h => rr_getfield_no rfl rfl h) (fun h4 => ?_)
      exact rr_ireturn rfl rfl
    · refine Eq.trans (rr_iconst rfl rfl) ?_
      refine Eq.trans (rr_goto rfl rfl) ?_
      exact rr_ireturn rfl rfl
  · refine Eq.trans (rr_aload_n rfl rfl) ?_
    refine Eq.trans (rr_bipush rfl rfl) ?_
    refine ck_it (fun h => rr_invV0i (S' := []) (L' := [some (.inr (.inr l0)), some (.inl ((-2)))]) (m' := (148, 0)) rfl rfl rfl rfl rfl rfl h) (fun h => rr_invV0_no (S' := []) (L' := [some (.inr (.inr l0)), some (.inl ((-2)))]) (m' := (148, 0)) rfl rfl rfl rfl rfl rfl h) (fun h5 => ?_)
    refine bi_cg (fun z3 ω3 => ?_)
    exact rr_ireturn rfl rfl
theorem pX7_leftAt_0 (l0 l1 l2 l3 : Int) (ω : am_W) : am_run (208, 0) 0 ([some (.inl l0), some (.inl l1), some (.inl l2), some (.inl l3)], [], ω) = some (some (.inl (am_w ((am_w ((am_w ((am_w ((am_w (l0 * 6)) + l1)) * 220)) + (am_w (l2 * 11)))) + l3))), ω) := by
  refine Eq.trans (rr_iload_n rfl rfl) ?_
  refine Eq.trans (rr_bipush rfl rfl) ?_
  refine Eq.trans (rr_imul rfl) ?_
  refine Eq.trans (rr_iload_n rfl rfl) ?_
  refine Eq.trans (rr_iadd rfl) ?_
  refine Eq.trans (rr_sipush rfl rfl) ?_
  refine Eq.trans (rr_imul rfl) ?_
  refine Eq.trans (rr_iload_n rfl rfl) ?_
  refine Eq.trans (rr_bipush rfl rfl) ?_
  refine Eq.trans (rr_imul rfl) ?_
  refine Eq.trans (rr_iadd rfl) ?_
  refine Eq.trans (rr_iload_n rfl rfl) ?_
  refine Eq.trans (rr_iadd rfl) ?_
  exact rr_ireturn rfl rfl
theorem pX7_way_0 (l0 l1 l2 l3 : Int) (ω : am_W) (h1 : am_is ω l0 (7, 30) = true) : am_run (209, 0) 0 ([some (.inr (.inr l0)), some (.inl l1), some (.inl l2), some (.inl l3), none, none, none, none, none, none, none, none], [], ω) = am_bi (am_run (152, 0) 0 ([some (.inr (.inr l0)), some (.inl l1), some (.inl l2)], [], ω)) (fun z1 ω1 => if z1 = 0 then (if am_is ω1 l0 (7, 30) = true then (am_bi (am_run (148, 0) 0 ([some (.inr (.inr l0)), some (.inl ((-2)))], [], ω1)) (fun z2 ω2 => some (some (.inl z2), ω2))) else none) else (if 0 ≤ l3 then (if am_is ω1 l0 (7, 30) = true then (if am_in ω1 (am_get ω1 l0.toNat 10) 100 l1 = true then (am_bi (am_run (205, 0) 0 ([some (.inr (.inr l0)), some (.inl l1), some (.inl l2), some (.inl 60), some (.inl (am_get ω1 (am_get ω1 l0.toNat 10).toNat l1.toNat)), some (.inl 1), none, none, none, none], [], ω1)) (fun z3 ω3 => if ¬ z3 = 10000 then (if am_is ω3 l0 (7, 30) = true then (if l3 < (am_get ω3 l0.toNat 29) then (if am_in ω3 (am_get ω3 l0.toNat 7) 100 l1 = true then (if (am_get ω3 (am_get ω3 l0.toNat 7).toNat l1.toNat) = 2 then (am_run (209, 0) 108 ([some (.inr (.inr l0)), some (.inl l1), some (.inl l2), some (.inl l3), some (.inl (am_get ω3 l0.toNat 29)), some (.inl 0), some (.inl (am_get ω3 l0.toNat 29)), none, none, none, none, none], [], ω3)) else (if (am_get ω3 (am_get ω3 l0.toNat 7).toNat l1.toNat) = 3 then (am_run (209, 0) 108 ([some (.inr (.inr l0)), some (.inl l1), some (.inl l2), some (.inl l3), some (.inl (am_get ω3 l0.toNat 29)), some (.inl 0), some (.inl (am_get ω3 l0.toNat 29)), none, none, none, none, none], [], ω3)) else (if (am_get ω3 (am_get ω3 l0.toNat 7).toNat l1.toNat) = 4 then (am_run (209, 0) 108 ([some (.inr (.inr l0)), some (.inl l1), some (.inl l2), some (.inl l3), some (.inl (am_get ω3 l0.toNat 29)), some (.inl 0), some (.inl (am_get ω3 l0.toNat 29)), none, none, none, none, none], [], ω3)) else (am_run (209, 0) 108 ([some (.inr (.inr l0)), some (.inl l1), some (.inl l2), some (.inl l3), some (.inl (am_get ω3 l0.toNat 29)), some (.inl 1), some (.inl (am_get ω3 l0.toNat 29)), none, none, none, none, none], [], ω3))))) else none) else (am_bi (am_run (148, 0) 0 ([some (.inr (.inr l0)), some (.inl ((-5)))], [], ω3)) (fun z4 ω4 => some (some (.inl z4), ω4)))) else none) else (if am_is ω3 l0 (7, 30) = true then (am_bi (am_run (148, 0) 0 ([some (.inr (.inr l0)), some (.inl ((-5)))], [], ω3)) (fun z5 ω5 => some (some (.inl z5), ω5))) else none))) else none) else none) else (if am_is ω1 l0 (7, 30) = true then (am_bi (am_run (148, 0) 0 ([some (.inr (.inr l0)), some (.inl ((-2)))], [], ω1)) (fun z6 ω6 => some (some (.inl z6), ω6))) else none))) := by
  refine Eq.trans (rr_aload_n rfl rfl) ?_
  refine Eq.trans (rr_iload_n rfl rfl) ?_
  refine Eq.trans (rr_iload_n rfl rfl) ?_
  refine Eq.trans (rr_invV0i (S' := []) (L' := [some (.inr (.inr l0)), some (.inl l1), some (.inl l2)]) (m' := (152, 0)) rfl rfl rfl rfl rfl rfl h1) ?_
  refine bi_cg (fun z1 ω1 => ?_)
  refine Eq.trans (rr_if_eq rfl rfl) (it_cg (fun _ => ?_) (fun _ => ?_))
  · refine Eq.trans (rr_aload_n rfl rfl) ?_
    refine Eq.trans (rr_bipush rfl rfl) ?_
    refine ck_it (fun h => rr_invV0i (S' := []) (L' := [some (.inr (.inr l0)), some (.inl ((-2)))]) (m' := (148, 0)) rfl rfl rfl rfl rfl rfl h) (fun h => rr_invV0_no (S' := []) (L' := [some (.inr (.inr l0)), some (.inl ((-2)))]) (m' := (148, 0)) rfl rfl rfl rfl rfl rfl h) (fun h2 => ?_)
    refine bi_cg (fun z2 ω2 => ?_)
    exact rr_ireturn rfl rfl
  · refine Eq.trans (rr_iload_n rfl rfl) ?_
    refine Eq.trans (rr_if_ge rfl rfl) (it_cg (fun _ => ?_) (fun _ => ?_))
    · refine Eq.trans (rr_aload_n rfl rfl) ?_
      refine Eq.trans (rr_iload_n rfl rfl) ?_
      refine Eq.trans (rr_iload_n rfl rfl) ?_
      refine Eq.trans (rr_bipush rfl rfl) ?_
      refine Eq.trans (rr_aload_n rfl rfl) ?_
      refine ck_it (fun h => rr_getfr rfl rfl rfl h) (fun h => rr_getfield_no rfl rfl h) (fun h3 => ?_)
      refine Eq.trans (rr_iload_n rfl rfl) ?_
      refine ck_it (fun h => rr_iaload rfl rfl h) (fun h => rr_iaload_no rfl rfl h) (fun h4 => ?_)
      refine Eq.trans (rr_iconst rfl rfl) ?_
      refine Eq.trans (rr_invV0i (S' := []) (L' := [some (.inr (.inr l0)), some (.inl l1), some (.inl l2), some (.inl 60), some (.inl (am_get ω1 (am_get ω1 l0.toNat 10).toNat l1.toNat)), some (.inl 1), none, none, none, none]) (m' := (205, 0)) rfl rfl rfl rfl rfl rfl h3) ?_
      refine bi_cg (fun z3 ω3 => ?_)
      refine Eq.trans (rr_sipush rfl rfl) ?_
      refine Eq.trans (rr_icmp_ne rfl rfl) (it_cg (fun _ => ?_) (fun _ => ?_))
      · refine Eq.trans (rr_aload_n rfl rfl) ?_
        refine ck_it (fun h => rr_getfi rfl rfl rfl h) (fun h => rr_getfield_no rfl rfl h) (fun h5 => ?_)
        refine Eq.trans (rr_istore (L' := [some (.inr (.inr l0)), some (.inl l1), some (.inl l2), some (.inl l3), some (.inl (am_get ω3 l0.toNat 29)), none, none, none, none, none, none, none]) rfl rfl) ?_
        refine Eq.trans (rr_iload_n rfl rfl) ?_
        refine Eq.trans (rr_iload rfl rfl) ?_
        refine Eq.trans (rr_icmp_lt rfl rfl) (it_cg (fun _ => ?_) (fun _ => ?_))
        · refine Eq.trans (rr_aload_n rfl rfl) ?_
          refine Eq.trans (rr_getfr rfl rfl rfl h5) ?_
          refine Eq.trans (rr_iload_n rfl rfl) ?_
          refine ck_it (fun h => rr_iaload rfl rfl h) (fun h => rr_iaload_no rfl rfl h) (fun h6 => ?_)
          refine Eq.trans (rr_iconst rfl rfl) ?_
          refine Eq.trans (rr_icmp_eq rfl rfl) (it_cg (fun _ => ?_) (fun _ => ?_))
          · refine Eq.trans (rr_iconst rfl rfl) ?_
            refine Eq.trans (rr_istore (L' := [some (.inr (.inr l0)), some (.inl l1), some (.inl l2), some (.inl l3), some (.inl (am_get ω3 l0.toNat 29)), some (.inl 0), none, none, none, none, none, none]) rfl rfl) ?_
            refine Eq.trans (rr_iload rfl rfl) ?_
            refine Eq.trans (rr_istore (L' := [some (.inr (.inr l0)), some (.inl l1), some (.inl l2), some (.inl l3), some (.inl (am_get ω3 l0.toNat 29)), some (.inl 0), some (.inl (am_get ω3 l0.toNat 29)), none, none, none, none, none]) rfl rfl) ?_
            rfl
          · refine Eq.trans (rr_aload_n rfl rfl) ?_
            refine Eq.trans (rr_getfr rfl rfl rfl h5) ?_
            refine Eq.trans (rr_iload_n rfl rfl) ?_
            refine Eq.trans (rr_iaload rfl rfl h6) ?_
            refine Eq.trans (rr_iconst rfl rfl) ?_
            refine Eq.trans (rr_icmp_eq rfl rfl) (it_cg (fun _ => ?_) (fun _ => ?_))
            · refine Eq.trans (rr_iconst rfl rfl) ?_
              refine Eq.trans (rr_istore (L' := [some (.inr (.inr l0)), some (.inl l1), some (.inl l2), some (.inl l3), some (.inl (am_get ω3 l0.toNat 29)), some (.inl 0), none, none, none, none, none, none]) rfl rfl) ?_
              refine Eq.trans (rr_iload rfl rfl) ?_
              refine Eq.trans (rr_istore (L' := [some (.inr (.inr l0)), some (.inl l1), some (.inl l2), some (.inl l3), some (.inl (am_get ω3 l0.toNat 29)), some (.inl 0), some (.inl (am_get ω3 l0.toNat 29)), none, none, none, none, none]) rfl rfl) ?_
              rfl
            · refine Eq.trans (rr_aload_n rfl rfl) ?_
              refine Eq.trans (rr_getfr rfl rfl rfl h5) ?_
              refine Eq.trans (rr_iload_n rfl rfl) ?_
              refine Eq.trans (rr_iaload rfl rfl h6) ?_
              refine Eq.trans (rr_iconst rfl rfl) ?_
              refine Eq.trans (rr_icmp_eq rfl rfl) (it_cg (fun _ => ?_) (fun _ => ?_))
              · refine Eq.trans (rr_iconst rfl rfl) ?_
                refine Eq.trans (rr_istore (L' := [some (.inr (.inr l0)), some (.inl l1), some (.inl l2), some (.inl l3), some (.inl (am_get ω3 l0.toNat 29)), some (.inl 0), none, none, none, none, none, none]) rfl rfl) ?_
                refine Eq.trans (rr_iload rfl rfl) ?_
                refine Eq.trans (rr_istore (L' := [some (.inr (.inr l0)), some (.inl l1), some (.inl l2), some (.inl l3), some (.inl (am_get ω3 l0.toNat 29)), some (.inl 0), some (.inl (am_get ω3 l0.toNat 29)), none, none, none, none, none]) rfl rfl) ?_
                rfl
              · refine Eq.trans (rr_iconst rfl rfl) ?_
                refine Eq.trans (rr_goto rfl rfl) ?_
                refine Eq.trans (rr_istore (L' := [some (.inr (.inr l0)), some (.inl l1), some (.inl l2), some (.inl l3), some (.inl (am_get ω3 l0.toNat 29)), some (.inl 1), none, none, none, none, none, none]) rfl rfl) ?_
                refine Eq.trans (rr_iload rfl rfl) ?_
                refine Eq.trans (rr_istore (L' := [some (.inr (.inr l0)), some (.inl l1), some (.inl l2), some (.inl l3), some (.inl (am_get ω3 l0.toNat 29)), some (.inl 1), some (.inl (am_get ω3 l0.toNat 29)), none, none, none, none, none]) rfl rfl) ?_
                rfl
        · refine Eq.trans (rr_aload_n rfl rfl) ?_
          refine Eq.trans (rr_bipush rfl rfl) ?_
          refine Eq.trans (rr_invV0i (S' := []) (L' := [some (.inr (.inr l0)), some (.inl ((-5)))]) (m' := (148, 0)) rfl rfl rfl rfl rfl rfl h5) ?_
          refine bi_cg (fun z4 ω4 => ?_)
          exact rr_ireturn rfl rfl
      · refine Eq.trans (rr_aload_n rfl rfl) ?_
        refine Eq.trans (rr_bipush rfl rfl) ?_
        refine ck_it (fun h => rr_invV0i (S' := []) (L' := [some (.inr (.inr l0)), some (.inl ((-5)))]) (m' := (148, 0)) rfl rfl rfl rfl rfl rfl h) (fun h => rr_invV0_no (S' := []) (L' := [some (.inr (.inr l0)), some (.inl ((-5)))]) (m' := (148, 0)) rfl rfl rfl rfl rfl rfl h) (fun h7 => ?_)
        refine bi_cg (fun z5 ω5 => ?_)
        exact rr_ireturn rfl rfl
    · refine Eq.trans (rr_aload_n rfl rfl) ?_
      refine Eq.trans (rr_bipush rfl rfl) ?_
      refine ck_it (fun h => rr_invV0i (S' := []) (L' := [some (.inr (.inr l0)), some (.inl ((-2)))]) (m' := (148, 0)) rfl rfl rfl rfl rfl rfl h) (fun h => rr_invV0_no (S' := []) (L' := [some (.inr (.inr l0)), some (.inl ((-2)))]) (m' := (148, 0)) rfl rfl rfl rfl rfl rfl h) (fun h8 => ?_)
      refine bi_cg (fun z6 ω6 => ?_)
      exact rr_ireturn rfl rfl
theorem pX7_way_108 (l0 l1 l2 l3 l4 l5 l6 : Int) (o7 o8 o9 o10 o11 : Option am_V) (ω : am_W) (h1 : am_is ω l0 (7, 30) = true) : am_run (209, 0) 108 ([some (.inr (.inr l0)), some (.inl l1), some (.inl l2), some (.inl l3), some (.inl l4), some (.inl l5), some (.inl l6), o7, o8, o9, o10, o11], [], ω) = if l6 < 0 then (if am_in ω (am_get ω l0.toNat 8) 100 l1 = true then (if am_in ω (am_get ω l0.toNat 9) 100 l1 = true then (if am_in ω (am_get ω l0.toNat 11) 100 l1 = true then (am_run (209, 0) 304 ([some (.inr (.inr l0)), some (.inl l1), some (.inl l2), some (.inl l3), some (.inl l4), some (.inl l5), some (.inl (am_get ω (am_get ω l0.toNat 8).toNat l1.toNat)), some (.inl (am_get ω (am_get ω l0.toNat 9).toNat l1.toNat)), some (.inl (am_get ω (am_get ω l0.toNat 11).toNat l1.toNat)), some (.inl 0), o10, o11], [], ω)) else none) else none) else none) else (am_run (209, 0) 116 ([some (.inr (.inr l0)), some (.inl l1), some (.inl l2), some (.inl l3), some (.inl l4), some (.inl l5), some (.inl l6), some (.inl 0), o8, o9, o10, o11], [], ω)) := by
  refine Eq.trans (rr_iload rfl rfl) ?_
  refine Eq.trans (rr_if_lt rfl rfl) (it_cg (fun _ => ?_) (fun _ => ?_))
  · refine Eq.trans (rr_aload_n rfl rfl) ?_
    refine Eq.trans (rr_getfr rfl rfl rfl h1) ?_
    refine Eq.trans (rr_iload_n rfl rfl) ?_
    refine ck_it (fun h => rr_iaload rfl rfl h) (fun h => rr_iaload_no rfl rfl h) (fun h2 => ?_)
    refine Eq.trans (rr_istore (L' := [some (.inr (.inr l0)), some (.inl l1), some (.inl l2), some (.inl l3), some (.inl l4), some (.inl l5), some (.inl (am_get ω (am_get ω l0.toNat 8).toNat l1.toNat)), o7, o8, o9, o10, o11]) rfl rfl) ?_
    refine Eq.trans (rr_aload_n rfl rfl) ?_
    refine Eq.trans (rr_getfr rfl rfl rfl h1) ?_
    refine Eq.trans (rr_iload_n rfl rfl) ?_
    refine ck_it (fun h => rr_iaload rfl rfl h) (fun h => rr_iaload_no rfl rfl h) (fun h3 => ?_)
    refine Eq.trans (rr_istore (L' := [some (.inr (.inr l0)), some (.inl l1), some (.inl l2), some (.inl l3), some (.inl l4), some (.inl l5), some (.inl (am_get ω (am_get ω l0.toNat 8).toNat l1.toNat)), some (.inl (am_get ω (am_get ω l0.toNat 9).toNat l1.toNat)), o8, o9, o10, o11]) rfl rfl) ?_
    refine Eq.trans (rr_aload_n rfl rfl) ?_
    refine Eq.trans (rr_getfr rfl rfl rfl h1) ?_
    refine Eq.trans (rr_iload_n rfl rfl) ?_
    refine ck_it (fun h => rr_iaload rfl rfl h) (fun h => rr_iaload_no rfl rfl h) (fun h4 => ?_)
    refine Eq.trans (rr_istore (L' := [some (.inr (.inr l0)), some (.inl l1), some (.inl l2), some (.inl l3), some (.inl l4), some (.inl l5), some (.inl (am_get ω (am_get ω l0.toNat 8).toNat l1.toNat)), some (.inl (am_get ω (am_get ω l0.toNat 9).toNat l1.toNat)), some (.inl (am_get ω (am_get ω l0.toNat 11).toNat l1.toNat)), o9, o10, o11]) rfl rfl) ?_
    refine Eq.trans (rr_iconst rfl rfl) ?_
    refine Eq.trans (rr_istore (L' := [some (.inr (.inr l0)), some (.inl l1), some (.inl l2), some (.inl l3), some (.inl l4), some (.inl l5), some (.inl (am_get ω (am_get ω l0.toNat 8).toNat l1.toNat)), some (.inl (am_get ω (am_get ω l0.toNat 9).toNat l1.toNat)), some (.inl (am_get ω (am_get ω l0.toNat 11).toNat l1.toNat)), some (.inl 0), o10, o11]) rfl rfl) ?_
    rfl
  · refine Eq.trans (rr_iconst rfl rfl) ?_
    refine Eq.trans (rr_istore (L' := [some (.inr (.inr l0)), some (.inl l1), some (.inl l2), some (.inl l3), some (.inl l4), some (.inl l5), some (.inl l6), some (.inl 0), o8, o9, o10, o11]) rfl rfl) ?_
    rfl
theorem pX7_way_116 (l0 l1 l2 l3 l4 l5 l6 l7 : Int) (o8 o9 o10 o11 : Option am_V) (ω : am_W) (h1 : am_is ω l0 (7, 30) = true) : am_run (209, 0) 116 ([some (.inr (.inr l0)), some (.inl l1), some (.inl l2), some (.inl l3), some (.inl l4), some (.inl l5), some (.inl l6), some (.inl l7), o8, o9, o10, o11], [], ω) = if (am_get ω l0.toNat 3) ≤ l7 then (am_run (209, 0) 108 ([some (.inr (.inr l0)), some (.inl l1), some (.inl l2), some (.inl l3), some (.inl l4), some (.inl l5), some (.inl (am_w (l6 + (-1)))), some (.inl l7), o8, o9, o10, o11], [], ω)) else (am_run (209, 0) 128 ([some (.inr (.inr l0)), some (.inl l1), some (.inl l2), some (.inl l3), some (.inl l4), some (.inl l5), some (.inl l6), some (.inl l7), some (.inl 0), o9, o10, o11], [], ω)) := by
  refine Eq.trans (rr_iload rfl rfl) ?_
  refine Eq.trans (rr_aload_n rfl rfl) ?_
  refine Eq.trans (rr_getfi rfl rfl rfl h1) ?_
  refine Eq.trans (rr_icmp_ge rfl rfl) (it_cg (fun _ => ?_) (fun _ => ?_))
  · refine Eq.trans (rr_iinc (L' := [some (.inr (.inr l0)), some (.inl l1), some (.inl l2), some (.inl l3), some (.inl l4), some (.inl l5), some (.inl (am_w (l6 + (-1)))), some (.inl l7), o8, o9, o10, o11]) rfl rfl rfl) ?_
    refine Eq.trans (rr_goto rfl rfl) ?_
    rfl
  · refine Eq.trans (rr_iconst rfl rfl) ?_
    refine Eq.trans (rr_istore (L' := [some (.inr (.inr l0)), some (.inl l1), some (.inl l2), some (.inl l3), some (.inl l4), some (.inl l5), some (.inl l6), some (.inl l7), some (.inl 0), o9, o10, o11]) rfl rfl) ?_
    rfl
theorem pX7_way_128 (l0 l1 l2 l3 l4 l5 l6 l7 l8 : Int) (o9 o10 o11 : Option am_V) (ω : am_W) (h1 : am_is ω l0 (7, 30) = true) : am_run (209, 0) 128 ([some (.inr (.inr l0)), some (.inl l1), some (.inl l2), some (.inl l3), some (.inl l4), some (.inl l5), some (.inl l6), some (.inl l7), some (.inl l8), o9, o10, o11], [], ω) = if am_in ω (am_get ω l0.toNat 4) 100 l7 = true then (if (am_get ω (am_get ω l0.toNat 4).toNat l7.toNat) ≤ l8 then (am_run (209, 0) 116 ([some (.inr (.inr l0)), some (.inl l1), some (.inl l2), some (.inl l3), some (.inl l4), some (.inl l5), some (.inl l6), some (.inl (am_w (l7 + 1))), some (.inl l8), o9, o10, o11], [], ω)) else (am_run (209, 0) 143 ([some (.inr (.inr l0)), some (.inl l1), some (.inl l2), some (.inl l3), some (.inl l4), some (.inl l5), some (.inl l6), some (.inl l7), some (.inl l8), some (.inl 0), o10, o11], [], ω))) else none := by
  refine Eq.trans (rr_iload rfl rfl) ?_
  refine Eq.trans (rr_aload_n rfl rfl) ?_
  refine Eq.trans (rr_getfr rfl rfl rfl h1) ?_
  refine Eq.trans (rr_iload rfl rfl) ?_
  refine ck_it (fun h => rr_iaload rfl rfl h) (fun h => rr_iaload_no rfl rfl h) (fun h2 => ?_)
  refine Eq.trans (rr_icmp_ge rfl rfl) (it_cg (fun _ => ?_) (fun _ => ?_))
  · refine Eq.trans (rr_iinc (L' := [some (.inr (.inr l0)), some (.inl l1), some (.inl l2), some (.inl l3), some (.inl l4), some (.inl l5), some (.inl l6), some (.inl (am_w (l7 + 1))), some (.inl l8), o9, o10, o11]) rfl rfl rfl) ?_
    refine Eq.trans (rr_goto rfl rfl) ?_
    rfl
  · refine Eq.trans (rr_iconst rfl rfl) ?_
    refine Eq.trans (rr_istore (L' := [some (.inr (.inr l0)), some (.inl l1), some (.inl l2), some (.inl l3), some (.inl l4), some (.inl l5), some (.inl l6), some (.inl l7), some (.inl l8), some (.inl 0), o10, o11]) rfl rfl) ?_
    rfl
theorem pX7_way_143 (l0 l1 l2 l3 l4 l5 l6 l7 l8 l9 : Int) (o10 o11 : Option am_V) (ω : am_W) (h1 : am_is ω l0 (7, 30) = true) : am_run (209, 0) 143 ([some (.inr (.inr l0)), some (.inl l1), some (.inl l2), some (.inl l3), some (.inl l4), some (.inl l5), some (.inl l6), some (.inl l7), some (.inl l8), some (.inl l9), o10, o11], [], ω) = if 11 ≤ l9 then (am_run (209, 0) 128 ([some (.inr (.inr l0)), some (.inl l1), some (.inl l2), some (.inl l3), some (.inl l4), some (.inl l5), some (.inl l6), some (.inl l7), some (.inl (am_w (l8 + 1))), some (.inl l9), o10, o11], [], ω)) else (if ¬ l6 = l4 then (am_run (209, 0) 199 ([some (.inr (.inr l0)), some (.inl l1), some (.inl l2), some (.inl l3), some (.inl l4), some (.inl l5), some (.inl l6), some (.inl l7), some (.inl l8), some (.inl l9), some (.inl 10000), some (.inl 0)], [], ω)) else (if ¬ l9 = 0 then (am_bi (am_run (208, 0) 0 ([some (.inl l6), some (.inl l7), some (.inl l8), some (.inl l9)], [], ω)) (fun z1 ω1 => if am_in ω1 (am_get ω l0.toNat 27) 100 z1 = true then (am_run (209, 0) 143 ([some (.inr (.inr l0)), some (.inl l1), some (.inl l2), some (.inl l3), some (.inl l4), some (.inl l5), some (.inl l6), some (.inl l7), some (.inl l8), some (.inl (am_w (l9 + 1))), some (.inl 10000), o11], [], am_put ω1 (am_get ω l0.toNat 27).toNat z1.toNat 10000)) else none)) else (if am_in ω (am_get ω l0.toNat 8) 100 l2 = true then (if ¬ l7 = (am_get ω (am_get ω l0.toNat 8).toNat l2.toNat) then (am_bi (am_run (208, 0) 0 ([some (.inl l6), some (.inl l7), some (.inl l8), some (.inl l9)], [], ω)) (fun z2 ω2 => if am_in ω2 (am_get ω l0.toNat 27) 100 z2 = true then (am_run (209, 0) 143 ([some (.inr (.inr l0)), some (.inl l1), some (.inl l2), some (.inl l3), some (.inl l4), some (.inl l5), some (.inl l6), some (.inl l7), some (.inl l8), some (.inl (am_w (l9 + 1))), some (.inl 10000), o11], [], am_put ω2 (am_get ω l0.toNat 27).toNat z2.toNat 10000)) else none)) else (am_bi (am_run (204, 0) 0 ([some (.inr (.inr l0)), some (.inl l2), some (.inl l6)], [], ω)) (fun z3 ω3 => if ¬ l8 = z3 then (if am_is ω3 l0 (7, 30) = true then (am_bi (am_run (208, 0) 0 ([some (.inl l6), some (.inl l7), some (.inl l8), some (.inl l9)], [], ω3)) (fun z4 ω4 => if am_in ω4 (am_get ω3 l0.toNat 27) 100 z4 = true then (am_run (209, 0) 143 ([some (.inr (.inr l0)), some (.inl l1), some (.inl l2), some (.inl l3), some (.inl l4), some (.inl l5), some (.inl l6), some (.inl l7), some (.inl l8), some (.inl (am_w (l9 + 1))), some (.inl 10000), o11], [], am_put ω4 (am_get ω3 l0.toNat 27).toNat z4.toNat 10000)) else none)) else none) else (if am_is ω3 l0 (7, 30) = true then (am_bi (am_run (208, 0) 0 ([some (.inl l6), some (.inl l7), some (.inl l8), some (.inl l9)], [], ω3)) (fun z5 ω5 => if am_in ω5 (am_get ω3 l0.toNat 27) 100 z5 = true then (am_run (209, 0) 143 ([some (.inr (.inr l0)), some (.inl l1), some (.inl l2), some (.inl l3), some (.inl l4), some (.inl l5), some (.inl l6), some (.inl l7), some (.inl l8), some (.inl (am_w (l9 + 1))), some (.inl 0), o11], [], am_put ω5 (am_get ω3 l0.toNat 27).toNat z5.toNat 0)) else none)) else none)))) else none))) := by
  refine Eq.trans (rr_iload rfl rfl) ?_
  refine Eq.trans (rr_bipush rfl rfl) ?_
  refine Eq.trans (rr_icmp_ge rfl rfl) (it_cg (fun _ => ?_) (fun _ => ?_))
  · refine Eq.trans (rr_iinc (L' := [some (.inr (.inr l0)), some (.inl l1), some (.inl l2), some (.inl l3), some (.inl l4), some (.inl l5), some (.inl l6), some (.inl l7), some (.inl (am_w (l8 + 1))), some (.inl l9), o10, o11]) rfl rfl rfl) ?_
    refine Eq.trans (rr_goto rfl rfl) ?_
    rfl
  · refine Eq.trans (rr_sipush rfl rfl) ?_
    refine Eq.trans (rr_istore (L' := [some (.inr (.inr l0)), some (.inl l1), some (.inl l2), some (.inl l3), some (.inl l4), some (.inl l5), some (.inl l6), some (.inl l7), some (.inl l8), some (.inl l9), some (.inl 10000), o11]) rfl rfl) ?_
    refine Eq.trans (rr_iload rfl rfl) ?_
    refine Eq.trans (rr_iload rfl rfl) ?_
    refine Eq.trans (rr_icmp_ne rfl rfl) (it_cg (fun _ => ?_) (fun _ => ?_))
    · refine Eq.trans (rr_iconst rfl rfl) ?_
      refine Eq.trans (rr_istore (L' := [some (.inr (.inr l0)), some (.inl l1), some (.inl l2), some (.inl l3), some (.inl l4), some (.inl l5), some (.inl l6), some (.inl l7), some (.inl l8), some (.inl l9), some (.inl 10000), some (.inl 0)]) rfl rfl) ?_
      rfl
    · refine Eq.trans (rr_iload rfl rfl) ?_
      refine Eq.trans (rr_if_ne rfl rfl) (it_cg (fun _ => ?_) (fun _ => ?_))
      · refine Eq.trans (rr_aload_n rfl rfl) ?_
        refine Eq.trans (rr_getfr rfl rfl rfl h1) ?_
        refine Eq.trans (rr_iload rfl rfl) ?_
        refine Eq.trans (rr_iload rfl rfl) ?_
        refine Eq.trans (rr_iload rfl rfl) ?_
        refine Eq.trans (rr_iload rfl rfl) ?_
        refine Eq.trans (rr_invS2i (S' := [.inr (.inr (am_get ω l0.toNat 27))]) (L' := [some (.inl l6), some (.inl l7), some (.inl l8), some (.inl l9)]) (m' := (208, 0)) rfl rfl rfl rfl rfl rfl) ?_
        refine bi_cg (fun z1 ω1 => ?_)
        refine Eq.trans (rr_iload rfl rfl) ?_
        refine ck_it (fun h => rr_iastore rfl h) (fun h => rr_iastore_no rfl h) (fun h2 => ?_)
        refine Eq.trans (rr_iinc (L' := [some (.inr (.inr l0)), some (.inl l1), some (.inl l2), some (.inl l3), some (.inl l4), some (.inl l5), some (.inl l6), some (.inl l7), some (.inl l8), some (.inl (am_w (l9 + 1))), some (.inl 10000), o11]) rfl rfl rfl) ?_
        refine Eq.trans (rr_goto rfl rfl) ?_
        rfl
      · refine Eq.trans (rr_iload rfl rfl) ?_
        refine Eq.trans (rr_aload_n rfl rfl) ?_
        refine Eq.trans (rr_getfr rfl rfl rfl h1) ?_
        refine Eq.trans (rr_iload_n rfl rfl) ?_
        refine ck_it (fun h => rr_iaload rfl rfl h) (fun h => rr_iaload_no rfl rfl h) (fun h3 => ?_)
        refine Eq.trans (rr_icmp_ne rfl rfl) (it_cg (fun _ => ?_) (fun _ => ?_))
        · refine Eq.trans (rr_aload_n rfl rfl) ?_
          refine Eq.trans (rr_getfr rfl rfl rfl h1) ?_
          refine Eq.trans (rr_iload rfl rfl) ?_
          refine Eq.trans (rr_iload rfl rfl) ?_
          refine Eq.trans (rr_iload rfl rfl) ?_
          refine Eq.trans (rr_iload rfl rfl) ?_
          refine Eq.trans (rr_invS2i (S' := [.inr (.inr (am_get ω l0.toNat 27))]) (L' := [some (.inl l6), some (.inl l7), some (.inl l8), some (.inl l9)]) (m' := (208, 0)) rfl rfl rfl rfl rfl rfl) ?_
          refine bi_cg (fun z2 ω2 => ?_)
          refine Eq.trans (rr_iload rfl rfl) ?_
          refine ck_it (fun h => rr_iastore rfl h) (fun h => rr_iastore_no rfl h) (fun h4 => ?_)
          refine Eq.trans (rr_iinc (L' := [some (.inr (.inr l0)), some (.inl l1), some (.inl l2), some (.inl l3), some (.inl l4), some (.inl l5), some (.inl l6), some (.inl l7), some (.inl l8), some (.inl (am_w (l9 + 1))), some (.inl 10000), o11]) rfl rfl rfl) ?_
          refine Eq.trans (rr_goto rfl rfl) ?_
          rfl
        · refine Eq.trans (rr_iload rfl rfl) ?_
          refine Eq.trans (rr_aload_n rfl rfl) ?_
          refine Eq.trans (rr_iload_n rfl rfl) ?_
          refine Eq.trans (rr_iload rfl rfl) ?_
          refine Eq.trans (rr_invV0i (S' := [.inl l8]) (L' := [some (.inr (.inr l0)), some (.inl l2), some (.inl l6)]) (m' := (204, 0)) rfl rfl rfl rfl rfl rfl h1) ?_
          refine bi_cg (fun z3 ω3 => ?_)
          refine Eq.trans (rr_icmp_ne rfl rfl) (it_cg (fun _ => ?_) (fun _ => ?_))
          · refine Eq.trans (rr_aload_n rfl rfl) ?_
            refine ck_it (fun h => rr_getfr rfl rfl rfl h) (fun h => rr_getfield_no rfl rfl h) (fun h5 => ?_)
            refine Eq.trans (rr_iload rfl rfl) ?_
            refine Eq.trans (rr_iload rfl rfl) ?_
            refine Eq.trans (rr_iload rfl rfl) ?_
            refine Eq.trans (rr_iload rfl rfl) ?_
            refine Eq.trans (rr_invS2i (S' := [.inr (.inr (am_get ω3 l0.toNat 27))]) (L' := [some (.inl l6), some (.inl l7), some (.inl l8), some (.inl l9)]) (m' := (208, 0)) rfl rfl rfl rfl rfl rfl) ?_
            refine bi_cg (fun z4 ω4 => ?_)
            refine Eq.trans (rr_iload rfl rfl) ?_
            refine ck_it (fun h => rr_iastore rfl h) (fun h => rr_iastore_no rfl h) (fun h6 => ?_)
            refine Eq.trans (rr_iinc (L' := [some (.inr (.inr l0)), some (.inl l1), some (.inl l2), some (.inl l3), some (.inl l4), some (.inl l5), some (.inl l6), some (.inl l7), some (.inl l8), some (.inl (am_w (l9 + 1))), some (.inl 10000), o11]) rfl rfl rfl) ?_
            refine Eq.trans (rr_goto rfl rfl) ?_
            rfl
          · refine Eq.trans (rr_iconst rfl rfl) ?_
            refine Eq.trans (rr_istore (L' := [some (.inr (.inr l0)), some (.inl l1), some (.inl l2), some (.inl l3), some (.inl l4), some (.inl l5), some (.inl l6), some (.inl l7), some (.inl l8), some (.inl l9), some (.inl 0), o11]) rfl rfl) ?_
            refine Eq.trans (rr_goto rfl rfl) ?_
            refine Eq.trans (rr_aload_n rfl rfl) ?_
            refine ck_it (fun h => rr_getfr rfl rfl rfl h) (fun h => rr_getfield_no rfl rfl h) (fun h7 => ?_)
            refine Eq.trans (rr_iload rfl rfl) ?_
            refine Eq.trans (rr_iload rfl rfl) ?_
            refine Eq.trans (rr_iload rfl rfl) ?_
            refine Eq.trans (rr_iload rfl rfl) ?_
            refine Eq.trans (rr_invS2i (S' := [.inr (.inr (am_get ω3 l0.toNat 27))]) (L' := [some (.inl l6), some (.inl l7), some (.inl l8), some (.inl l9)]) (m' := (208, 0)) rfl rfl rfl rfl rfl rfl) ?_
            refine bi_cg (fun z5 ω5 => ?_)
            refine Eq.trans (rr_iload rfl rfl) ?_
            refine ck_it (fun h => rr_iastore rfl h) (fun h => rr_iastore_no rfl h) (fun h8 => ?_)
            refine Eq.trans (rr_iinc (L' := [some (.inr (.inr l0)), some (.inl l1), some (.inl l2), some (.inl l3), some (.inl l4), some (.inl l5), some (.inl l6), some (.inl l7), some (.inl l8), some (.inl (am_w (l9 + 1))), some (.inl 0), o11]) rfl rfl rfl) ?_
            refine Eq.trans (rr_goto rfl rfl) ?_
            rfl
theorem pX7_way_199 (l0 l1 l2 l3 l4 l5 l6 l7 l8 l9 l10 l11 : Int) (ω : am_W) (h1 : am_is ω l0 (7, 30) = true) : am_run (209, 0) 199 ([some (.inr (.inr l0)), some (.inl l1), some (.inl l2), some (.inl l3), some (.inl l4), some (.inl l5), some (.inl l6), some (.inl l7), some (.inl l8), some (.inl l9), some (.inl l10), some (.inl l11)], [], ω) = if 3 ≤ l11 then (am_bi (am_run (208, 0) 0 ([some (.inl l6), some (.inl l7), some (.inl l8), some (.inl l9)], [], ω)) (fun z1 ω1 => if am_in ω1 (am_get ω l0.toNat 27) 100 z1 = true then (am_run (209, 0) 143 ([some (.inr (.inr l0)), some (.inl l1), some (.inl l2), some (.inl l3), some (.inl l4), some (.inl l5), some (.inl l6), some (.inl l7), some (.inl l8), some (.inl (am_w (l9 + 1))), some (.inl l10), some (.inl l11)], [], am_put ω1 (am_get ω l0.toNat 27).toNat z1.toNat l10)) else none)) else (am_bi (am_run (210, 0) 0 ([some (.inr (.inr l0)), some (.inl l1), some (.inl l6), some (.inl l7), some (.inl l8), some (.inl l9), some (.inl l11), some (.inl l5), none], [], ω)) (fun z2 ω2 => am_bi (am_run (237, 0) 0 ([some (.inl l10), some (.inl z2)], [], ω2)) (fun z3 ω3 => am_run (209, 0) 199 ([some (.inr (.inr l0)), some (.inl l1), some (.inl l2), some (.inl l3), some (.inl l4), some (.inl l5), some (.inl l6), some (.inl l7), some (.inl l8), some (.inl l9), some (.inl z3), some (.inl (am_w (l11 + 1)))], [], ω3)))) := by
  refine Eq.trans (rr_iload rfl rfl) ?_
  refine Eq.trans (rr_iconst rfl rfl) ?_
  refine Eq.trans (rr_icmp_ge rfl rfl) (it_cg (fun _ => ?_) (fun _ => ?_))
  · refine Eq.trans (rr_aload_n rfl rfl) ?_
    refine Eq.trans (rr_getfr rfl rfl rfl h1) ?_
    refine Eq.trans (rr_iload rfl rfl) ?_
    refine Eq.trans (rr_iload rfl rfl) ?_
    refine Eq.trans (rr_iload rfl rfl) ?_
    refine Eq.trans (rr_iload rfl rfl) ?_
    refine Eq.trans (rr_invS2i (S' := [.inr (.inr (am_get ω l0.toNat 27))]) (L' := [some (.inl l6), some (.inl l7), some (.inl l8), some (.inl l9)]) (m' := (208, 0)) rfl rfl rfl rfl rfl rfl) ?_
    refine bi_cg (fun z1 ω1 => ?_)
    refine Eq.trans (rr_iload rfl rfl) ?_
    refine ck_it (fun h => rr_iastore rfl h) (fun h => rr_iastore_no rfl h) (fun h2 => ?_)
    refine Eq.trans (rr_iinc (L' := [some (.inr (.inr l0)), some (.inl l1), some (.inl l2), some (.inl l3), some (.inl l4), some (.inl l5), some (.inl l6), some (.inl l7), some (.inl l8), some (.inl (am_w (l9 + 1))), some (.inl l10), some (.inl l11)]) rfl rfl rfl) ?_
    refine Eq.trans (rr_goto rfl rfl) ?_
    rfl
  · refine Eq.trans (rr_iload rfl rfl) ?_
    refine Eq.trans (rr_aload_n rfl rfl) ?_
    refine Eq.trans (rr_iload_n rfl rfl) ?_
    refine Eq.trans (rr_iload rfl rfl) ?_
    refine Eq.trans (rr_iload rfl rfl) ?_
    refine Eq.trans (rr_iload rfl rfl) ?_
    refine Eq.trans (rr_iload rfl rfl) ?_
    refine Eq.trans (rr_iload rfl rfl) ?_
    refine Eq.trans (rr_iload rfl rfl) ?_
    refine Eq.trans (rr_invV0i (S' := [.inl l10]) (L' := [some (.inr (.inr l0)), some (.inl l1), some (.inl l6), some (.inl l7), some (.inl l8), some (.inl l9), some (.inl l11), some (.inl l5), none]) (m' := (210, 0)) rfl rfl rfl rfl rfl rfl h1) ?_
    refine bi_cg (fun z2 ω2 => ?_)
    refine Eq.trans (rr_invS2i (S' := []) (L' := [some (.inl l10), some (.inl z2)]) (m' := (237, 0)) rfl rfl rfl rfl rfl rfl) ?_
    refine bi_cg (fun z3 ω3 => ?_)
    refine Eq.trans (rr_istore (L' := [some (.inr (.inr l0)), some (.inl l1), some (.inl l2), some (.inl l3), some (.inl l4), some (.inl l5), some (.inl l6), some (.inl l7), some (.inl l8), some (.inl l9), some (.inl z3), some (.inl l11)]) rfl rfl) ?_
    refine Eq.trans (rr_iinc (L' := [some (.inr (.inr l0)), some (.inl l1), some (.inl l2), some (.inl l3), some (.inl l4), some (.inl l5), some (.inl l6), some (.inl l7), some (.inl l8), some (.inl l9), some (.inl z3), some (.inl (am_w (l11 + 1)))]) rfl rfl rfl) ?_
    refine Eq.trans (rr_goto rfl rfl) ?_
    rfl
theorem pX7_way_304 (l0 l1 l2 l3 l4 l5 l6 l7 l8 l9 : Int) (o10 o11 : Option am_V) (ω : am_W) (h1 : am_is ω l0 (7, 30) = true) : am_run (209, 0) 304 ([some (.inr (.inr l0)), some (.inl l1), some (.inl l2), some (.inl l3), some (.inl l4), some (.inl l5), some (.inl l6), some (.inl l7), some (.inl l8), some (.inl l9), o10, o11], [], ω) = if l4 ≤ l9 then (if am_in ω (am_get ω l0.toNat 28) 100 l3 = true then (some (some (.inl (am_get ω (am_get ω l0.toNat 28).toNat l3.toNat)), ω)) else none) else (am_run (209, 0) 314 ([some (.inr (.inr l0)), some (.inl l1), some (.inl l2), some (.inl l3), some (.inl l4), some (.inl l5), some (.inl l6), some (.inl l7), some (.inl l8), some (.inl l9), some (.inl 0), o11], [], ω)) := by
  refine Eq.trans (rr_iload rfl rfl) ?_
  refine Eq.trans (rr_iload rfl rfl) ?_
  refine Eq.trans (rr_icmp_ge rfl rfl) (it_cg (fun _ => ?_) (fun _ => ?_))
  · refine Eq.trans (rr_aload_n rfl rfl) ?_
    refine Eq.trans (rr_getfr rfl rfl rfl h1) ?_
    refine Eq.trans (rr_iload_n rfl rfl) ?_
    refine ck_it (fun h => rr_iaload rfl rfl h) (fun h => rr_iaload_no rfl rfl h) (fun h2 => ?_)
    exact rr_ireturn rfl rfl
  · refine Eq.trans (rr_iconst rfl rfl) ?_
    refine Eq.trans (rr_istore (L' := [some (.inr (.inr l0)), some (.inl l1), some (.inl l2), some (.inl l3), some (.inl l4), some (.inl l5), some (.inl l6), some (.inl l7), some (.inl l8), some (.inl l9), some (.inl 0), o11]) rfl rfl) ?_
    rfl
theorem pX7_way_314 (l0 l1 l2 l3 l4 l5 l6 l7 l8 l9 l10 : Int) (o11 : Option am_V) (ω : am_W) (h1 : am_is ω l0 (7, 30) = true) : am_run (209, 0) 314 ([some (.inr (.inr l0)), some (.inl l1), some (.inl l2), some (.inl l3), some (.inl l4), some (.inl l5), some (.inl l6), some (.inl l7), some (.inl l8), some (.inl l9), some (.inl l10), o11], [], ω) = am_bi (am_run (210, 0) 0 ([some (.inr (.inr l0)), some (.inl l1), some (.inl l9), some (.inl l6), some (.inl l7), some (.inl l8), some (.inl l10), some (.inl l5), none], [], ω)) (fun z1 ω1 => if am_is ω1 l0 (7, 30) = true then (am_bi (am_run (208, 0) 0 ([some (.inl l9), some (.inl l6), some (.inl l7), some (.inl l8)], [], ω1)) (fun z2 ω2 => if am_in ω2 (am_get ω1 l0.toNat 27) 100 z2 = true then (if z1 = (am_get ω2 (am_get ω1 l0.toNat 27).toNat z2.toNat) then (if am_is ω2 l0 (7, 30) = true then (if am_in ω2 (am_get ω2 l0.toNat 28) 100 l9 = true then (if l10 ≤ 0 then (if l8 ≤ 0 then (if am_in (am_put ω2 (am_get ω2 l0.toNat 28).toNat l9.toNat l10) (am_get (am_put ω2 (am_get ω2 l0.toNat 28).toNat l9.toNat l10) l0.toNat 4) 100 l6 = true then (if (am_get (am_put ω2 (am_get ω2 l0.toNat 28).toNat l9.toNat l10) (am_get (am_put ω2 (am_get ω2 l0.toNat 28).toNat l9.toNat l10) l0.toNat 4).toNat l6.toNat) = 0 then none else (am_run (209, 0) 304 ([some (.inr (.inr l0)), some (.inl l1), some (.inl l2), some (.inl l3), some (.inl l4), some (.inl l5), some (.inl l6), some (.inl ((am_w (l7 + 1)).tmod (am_get (am_put ω2 (am_get ω2 l0.toNat 28).toNat l9.toNat l10) (am_get (am_put ω2 (am_get ω2 l0.toNat 28).toNat l9.toNat l10) l0.toNat 4).toNat l6.toNat))), some (.inl l8), some (.inl (am_w (l9 + 1))), some (.inl l10), o11], [], am_put ω2 (am_get ω2 l0.toNat 28).toNat l9.toNat l10))) else none) else (am_run (209, 0) 304 ([some (.inr (.inr l0)), some (.inl l1), some (.inl l2), some (.inl l3), some (.inl l4), some (.inl l5), some (.inl l6), some (.inl l7), some (.inl (am_w (l8 + (-1)))), some (.inl (am_w (l9 + 1))), some (.inl l10), o11], [], am_put ω2 (am_get ω2 l0.toNat 28).toNat l9.toNat l10))) else (if ¬ l10 = 1 then (am_run (209, 0) 387 ([some (.inr (.inr l0)), some (.inl l1), some (.inl l2), some (.inl l3), some (.inl l4), some (.inl l5), some (.inl l6), some (.inl l7), some (.inl l8), some (.inl l9), some (.inl l10), o11], [.inl (am_w (l6 - 1))], am_put ω2 (am_get ω2 l0.toNat 28).toNat l9.toNat l10)) else (am_run (209, 0) 387 ([some (.inr (.inr l0)), some (.inl l1), some (.inl l2), some (.inl l3), some (.inl l4), some (.inl l5), some (.inl l6), some (.inl l7), some (.inl l8), some (.inl l9), some (.inl l10), o11], [.inl (am_w (l6 + 1))], am_put ω2 (am_get ω2 l0.toNat 28).toNat l9.toNat l10)))) else none) else none) else (am_run (209, 0) 314 ([some (.inr (.inr l0)), some (.inl l1), some (.inl l2), some (.inl l3), some (.inl l4), some (.inl l5), some (.inl l6), some (.inl l7), some (.inl l8), some (.inl l9), some (.inl (am_w (l10 + 1))), o11], [], ω2))) else none)) else none) := by
  refine Eq.trans (rr_aload_n rfl rfl) ?_
  refine Eq.trans (rr_iload_n rfl rfl) ?_
  refine Eq.trans (rr_iload rfl rfl) ?_
  refine Eq.trans (rr_iload rfl rfl) ?_
  refine Eq.trans (rr_iload rfl rfl) ?_
  refine Eq.trans (rr_iload rfl rfl) ?_
  refine Eq.trans (rr_iload rfl rfl) ?_
  refine Eq.trans (rr_iload rfl rfl) ?_
  refine Eq.trans (rr_invV0i (S' := []) (L' := [some (.inr (.inr l0)), some (.inl l1), some (.inl l9), some (.inl l6), some (.inl l7), some (.inl l8), some (.inl l10), some (.inl l5), none]) (m' := (210, 0)) rfl rfl rfl rfl rfl rfl h1) ?_
  refine bi_cg (fun z1 ω1 => ?_)
  refine Eq.trans (rr_aload_n rfl rfl) ?_
  refine ck_it (fun h => rr_getfr rfl rfl rfl h) (fun h => rr_getfield_no rfl rfl h) (fun h2 => ?_)
  refine Eq.trans (rr_iload rfl rfl) ?_
  refine Eq.trans (rr_iload rfl rfl) ?_
  refine Eq.trans (rr_iload rfl rfl) ?_
  refine Eq.trans (rr_iload rfl rfl) ?_
  refine Eq.trans (rr_invS2i (S' := [.inr (.inr (am_get ω1 l0.toNat 27)), .inl z1]) (L' := [some (.inl l9), some (.inl l6), some (.inl l7), some (.inl l8)]) (m' := (208, 0)) rfl rfl rfl rfl rfl rfl) ?_
  refine bi_cg (fun z2 ω2 => ?_)
  refine ck_it (fun h => rr_iaload rfl rfl h) (fun h => rr_iaload_no rfl rfl h) (fun h3 => ?_)
  refine Eq.trans (rr_icmp_eq rfl rfl) (it_cg (fun _ => ?_) (fun _ => ?_))
  · refine Eq.trans (rr_aload_n rfl rfl) ?_
    refine ck_it (fun h => rr_getfr rfl rfl rfl h) (fun h => rr_getfield_no rfl rfl h) (fun h4 => ?_)
    refine Eq.trans (rr_iload rfl rfl) ?_
    refine Eq.trans (rr_iload rfl rfl) ?_
    refine ck_it (fun h => rr_iastore rfl h) (fun h => rr_iastore_no rfl h) (fun h5 => ?_)
    refine Eq.trans (rr_iload rfl rfl) ?_
    refine Eq.trans (rr_if_le rfl rfl) (it_cg (fun _ => ?_) (fun _ => ?_))
    · refine Eq.trans (rr_iload rfl rfl) ?_
      refine Eq.trans (rr_if_le rfl rfl) (it_cg (fun _ => ?_) (fun _ => ?_))
      · refine Eq.trans (rr_iload rfl rfl) ?_
        refine Eq.trans (rr_iconst rfl rfl) ?_
        refine Eq.trans (rr_iadd rfl) ?_
        refine Eq.trans (rr_aload_n rfl rfl) ?_
        refine Eq.trans (rr_getfr rfl rfl rfl h4) ?_
        refine Eq.trans (rr_iload rfl rfl) ?_
        refine ck_it (fun h => rr_iaload rfl rfl h) (fun h => rr_iaload_no rfl rfl h) (fun h6 => ?_)
        refine Eq.trans (rr_irem rfl) (it_cg (fun _ => rfl) (fun _ => ?_))
        refine Eq.trans (rr_istore (L' := [some (.inr (.inr l0)), some (.inl l1), some (.inl l2), some (.inl l3), some (.inl l4), some (.inl l5), some (.inl l6), some (.inl ((am_w (l7 + 1)).tmod (am_get (am_put ω2 (am_get ω2 l0.toNat 28).toNat l9.toNat l10) (am_get (am_put ω2 (am_get ω2 l0.toNat 28).toNat l9.toNat l10) l0.toNat 4).toNat l6.toNat))), some (.inl l8), some (.inl l9), some (.inl l10), o11]) rfl rfl) ?_
        refine Eq.trans (rr_iinc (L' := [some (.inr (.inr l0)), some (.inl l1), some (.inl l2), some (.inl l3), some (.inl l4), some (.inl l5), some (.inl l6), some (.inl ((am_w (l7 + 1)).tmod (am_get (am_put ω2 (am_get ω2 l0.toNat 28).toNat l9.toNat l10) (am_get (am_put ω2 (am_get ω2 l0.toNat 28).toNat l9.toNat l10) l0.toNat 4).toNat l6.toNat))), some (.inl l8), some (.inl (am_w (l9 + 1))), some (.inl l10), o11]) rfl rfl rfl) ?_
        refine Eq.trans (rr_goto rfl rfl) ?_
        rfl
      · refine Eq.trans (rr_iinc (L' := [some (.inr (.inr l0)), some (.inl l1), some (.inl l2), some (.inl l3), some (.inl l4), some (.inl l5), some (.inl l6), some (.inl l7), some (.inl (am_w (l8 + (-1)))), some (.inl l9), some (.inl l10), o11]) rfl rfl rfl) ?_
        refine Eq.trans (rr_goto rfl rfl) ?_
        refine Eq.trans (rr_iinc (L' := [some (.inr (.inr l0)), some (.inl l1), some (.inl l2), some (.inl l3), some (.inl l4), some (.inl l5), some (.inl l6), some (.inl l7), some (.inl (am_w (l8 + (-1)))), some (.inl (am_w (l9 + 1))), some (.inl l10), o11]) rfl rfl rfl) ?_
        refine Eq.trans (rr_goto rfl rfl) ?_
        rfl
    · refine Eq.trans (rr_iload rfl rfl) ?_
      refine Eq.trans (rr_iconst rfl rfl) ?_
      refine Eq.trans (rr_icmp_ne rfl rfl) (it_cg (fun _ => ?_) (fun _ => ?_))
      · refine Eq.trans (rr_iload rfl rfl) ?_
        refine Eq.trans (rr_iconst rfl rfl) ?_
        refine Eq.trans (rr_isub rfl) ?_
        rfl
      · refine Eq.trans (rr_iload rfl rfl) ?_
        refine Eq.trans (rr_iconst rfl rfl) ?_
        refine Eq.trans (rr_iadd rfl) ?_
        refine Eq.trans (rr_goto rfl rfl) ?_
        rfl
  · refine Eq.trans (rr_iinc (L' := [some (.inr (.inr l0)), some (.inl l1), some (.inl l2), some (.inl l3), some (.inl l4), some (.inl l5), some (.inl l6), some (.inl l7), some (.inl l8), some (.inl l9), some (.inl (am_w (l10 + 1))), o11]) rfl rfl rfl) ?_
    refine Eq.trans (rr_goto rfl rfl) ?_
    rfl
theorem pX7_way_387 (l0 l1 l2 l3 l4 l5 l6 l7 l8 l9 l10 s0 : Int) (o11 : Option am_V) (ω : am_W) (h1 : am_is ω l0 (7, 30) = true) : am_run (209, 0) 387 ([some (.inr (.inr l0)), some (.inl l1), some (.inl l2), some (.inl l3), some (.inl l4), some (.inl l5), some (.inl l6), some (.inl l7), some (.inl l8), some (.inl l9), some (.inl l10), o11], [.inl s0], ω) = am_bi (am_run (186, 0) 0 ([some (.inr (.inr l0)), some (.inl l7), some (.inl l6), some (.inl s0)], [], ω)) (fun z1 ω1 => if am_is ω1 l0 (7, 30) = true then (if am_in ω1 (am_get ω1 l0.toNat 4) 100 l6 = true then (am_bi (am_run (185, 0) 0 ([some (.inl (am_get ω1 (am_get ω1 l0.toNat 4).toNat l6.toNat))], [], ω1)) (fun z2 ω2 => am_run (209, 0) 304 ([some (.inr (.inr l0)), some (.inl l1), some (.inl l2), some (.inl l3), some (.inl l4), some (.inl l5), some (.inl s0), some (.inl z1), some (.inl (am_w (z2 - 1))), some (.inl (am_w (l9 + 1))), some (.inl l10), some (.inl s0)], [], ω2))) else none) else none) := by
  refine Eq.trans (rr_istore (L' := [some (.inr (.inr l0)), some (.inl l1), some (.inl l2), some (.inl l3), some (.inl l4), some (.inl l5), some (.inl l6), some (.inl l7), some (.inl l8), some (.inl l9), some (.inl l10), some (.inl s0)]) rfl rfl) ?_
  refine Eq.trans (rr_aload_n rfl rfl) ?_
  refine Eq.trans (rr_iload rfl rfl) ?_
  refine Eq.trans (rr_iload rfl rfl) ?_
  refine Eq.trans (rr_iload rfl rfl) ?_
  refine Eq.trans (rr_invV0i (S' := []) (L' := [some (.inr (.inr l0)), some (.inl l7), some (.inl l6), some (.inl s0)]) (m' := (186, 0)) rfl rfl rfl rfl rfl rfl h1) ?_
  refine bi_cg (fun z1 ω1 => ?_)
  refine Eq.trans (rr_istore (L' := [some (.inr (.inr l0)), some (.inl l1), some (.inl l2), some (.inl l3), some (.inl l4), some (.inl l5), some (.inl l6), some (.inl z1), some (.inl l8), some (.inl l9), some (.inl l10), some (.inl s0)]) rfl rfl) ?_
  refine Eq.trans (rr_aload_n rfl rfl) ?_
  refine ck_it (fun h => rr_getfr rfl rfl rfl h) (fun h => rr_getfield_no rfl rfl h) (fun h2 => ?_)
  refine Eq.trans (rr_iload rfl rfl) ?_
  refine ck_it (fun h => rr_iaload rfl rfl h) (fun h => rr_iaload_no rfl rfl h) (fun h3 => ?_)
  refine Eq.trans (rr_invS2i (S' := []) (L' := [some (.inl (am_get ω1 (am_get ω1 l0.toNat 4).toNat l6.toNat))]) (m' := (185, 0)) rfl rfl rfl rfl rfl rfl) ?_
  refine bi_cg (fun z2 ω2 => ?_)
  refine Eq.trans (rr_iconst rfl rfl) ?_
  refine Eq.trans (rr_isub rfl) ?_
  refine Eq.trans (rr_istore (L' := [some (.inr (.inr l0)), some (.inl l1), some (.inl l2), some (.inl l3), some (.inl l4), some (.inl l5), some (.inl l6), some (.inl z1), some (.inl (am_w (z2 - 1))), some (.inl l9), some (.inl l10), some (.inl s0)]) rfl rfl) ?_
  refine Eq.trans (rr_iload rfl rfl) ?_
  refine Eq.trans (rr_istore (L' := [some (.inr (.inr l0)), some (.inl l1), some (.inl l2), some (.inl l3), some (.inl l4), some (.inl l5), some (.inl s0), some (.inl z1), some (.inl (am_w (z2 - 1))), some (.inl l9), some (.inl l10), some (.inl s0)]) rfl rfl) ?_
  refine Eq.trans (rr_goto rfl rfl) ?_
  refine Eq.trans (rr_iinc (L' := [some (.inr (.inr l0)), some (.inl l1), some (.inl l2), some (.inl l3), some (.inl l4), some (.inl l5), some (.inl s0), some (.inl z1), some (.inl (am_w (z2 - 1))), some (.inl (am_w (l9 + 1))), some (.inl l10), some (.inl s0)]) rfl rfl rfl) ?_
  refine Eq.trans (rr_goto rfl rfl) ?_
  rfl
theorem pX7_ahead_0 (l0 l1 l2 l3 l4 l5 l6 l7 : Int) (ω : am_W) (h1 : am_is ω l0 (7, 30) = true) : am_run (210, 0) 0 ([some (.inr (.inr l0)), some (.inl l1), some (.inl l2), some (.inl l3), some (.inl l4), some (.inl l5), some (.inl l6), some (.inl l7), none], [], ω) = if ¬ l6 = 0 then (if ¬ l6 = 1 then (am_run (210, 0) 62 ([some (.inr (.inr l0)), some (.inl l1), some (.inl l2), some (.inl l3), some (.inl l4), some (.inl l5), some (.inl l6), some (.inl l7), none], [.inl (am_w (l3 - 1))], ω)) else (am_run (210, 0) 62 ([some (.inr (.inr l0)), some (.inl l1), some (.inl l2), some (.inl l3), some (.inl l4), some (.inl l5), some (.inl l6), some (.inl l7), none], [.inl (am_w (l3 + 1))], ω))) else (if l5 ≤ 0 then (if am_in ω (am_get ω l0.toNat 4) 100 l3 = true then (if (am_get ω (am_get ω l0.toNat 4).toNat l3.toNat) = 0 then none else (am_bi (am_run (236, 0) 0 ([some (.inl 0), some (.inl (am_w (l5 - 1)))], [], ω)) (fun z1 ω1 => am_bi (am_run (208, 0) 0 ([some (.inl (am_w (l2 + 1))), some (.inl l3), some (.inl ((am_w (l4 + 1)).tmod (am_get ω (am_get ω l0.toNat 4).toNat l3.toNat))), some (.inl z1)], [], ω1)) (fun z2 ω2 => if am_in ω2 (am_get ω l0.toNat 27) 100 z2 = true then (some (some (.inl (am_get ω2 (am_get ω l0.toNat 27).toNat z2.toNat)), ω2)) else none)))) else none) else (am_bi (am_run (236, 0) 0 ([some (.inl 0), some (.inl (am_w (l5 - 1)))], [], ω)) (fun z3 ω3 => am_bi (am_run (208, 0) 0 ([some (.inl (am_w (l2 + 1))), some (.inl l3), some (.inl l4), some (.inl z3)], [], ω3)) (fun z4 ω4 => if am_in ω4 (am_get ω l0.toNat 27) 100 z4 = true then (some (some (.inl (am_get ω4 (am_get ω l0.toNat 27).toNat z4.toNat)), ω4)) else none)))) := by
  refine Eq.trans (rr_iload rfl rfl) ?_
  refine Eq.trans (rr_if_ne rfl rfl) (it_cg (fun _ => ?_) (fun _ => ?_))
  · refine Eq.trans (rr_iload rfl rfl) ?_
    refine Eq.trans (rr_iconst rfl rfl) ?_
    refine Eq.trans (rr_icmp_ne rfl rfl) (it_cg (fun _ => ?_) (fun _ => ?_))
    · refine Eq.trans (rr_iload_n rfl rfl) ?_
      refine Eq.trans (rr_iconst rfl rfl) ?_
      refine Eq.trans (rr_isub rfl) ?_
      rfl
    · refine Eq.trans (rr_iload_n rfl rfl) ?_
      refine Eq.trans (rr_iconst rfl rfl) ?_
      refine Eq.trans (rr_iadd rfl) ?_
      refine Eq.trans (rr_goto rfl rfl) ?_
      rfl
  · refine Eq.trans (rr_aload_n rfl rfl) ?_
    refine Eq.trans (rr_getfr rfl rfl rfl h1) ?_
    refine Eq.trans (rr_iload_n rfl rfl) ?_
    refine Eq.trans (rr_iconst rfl rfl) ?_
    refine Eq.trans (rr_iadd rfl) ?_
    refine Eq.trans (rr_iload_n rfl rfl) ?_
    refine Eq.trans (rr_iload rfl rfl) ?_
    refine Eq.trans (rr_if_le rfl rfl) (it_cg (fun _ => ?_) (fun _ => ?_))
    · refine Eq.trans (rr_iload rfl rfl) ?_
      refine Eq.trans (rr_iconst rfl rfl) ?_
      refine Eq.trans (rr_iadd rfl) ?_
      refine Eq.trans (rr_aload_n rfl rfl) ?_
      refine Eq.trans (rr_getfr rfl rfl rfl h1) ?_
      refine Eq.trans (rr_iload_n rfl rfl) ?_
      refine ck_it (fun h => rr_iaload rfl rfl h) (fun h => rr_iaload_no rfl rfl h) (fun h2 => ?_)
      refine Eq.trans (rr_irem rfl) (it_cg (fun _ => rfl) (fun _ => ?_))
      refine Eq.trans (rr_iconst rfl rfl) ?_
      refine Eq.trans (rr_iload rfl rfl) ?_
      refine Eq.trans (rr_iconst rfl rfl) ?_
      refine Eq.trans (rr_isub rfl) ?_
      refine Eq.trans (rr_invS2i (S' := [.inl ((am_w (l4 + 1)).tmod (am_get ω (am_get ω l0.toNat 4).toNat l3.toNat)), .inl l3, .inl (am_w (l2 + 1)), .inr (.inr (am_get ω l0.toNat 27))]) (L' := [some (.inl 0), some (.inl (am_w (l5 - 1)))]) (m' := (236, 0)) rfl rfl rfl rfl rfl rfl) ?_
      refine bi_cg (fun z1 ω1 => ?_)
      refine Eq.trans (rr_invS2i (S' := [.inr (.inr (am_get ω l0.toNat 27))]) (L' := [some (.inl (am_w (l2 + 1))), some (.inl l3), some (.inl ((am_w (l4 + 1)).tmod (am_get ω (am_get ω l0.toNat 4).toNat l3.toNat))), some (.inl z1)]) (m' := (208, 0)) rfl rfl rfl rfl rfl rfl) ?_
      refine bi_cg (fun z2 ω2 => ?_)
      refine ck_it (fun h => rr_iaload rfl rfl h) (fun h => rr_iaload_no rfl rfl h) (fun h3 => ?_)
      exact rr_ireturn rfl rfl
    · refine Eq.trans (rr_iload rfl rfl) ?_
      refine Eq.trans (rr_goto rfl rfl) ?_
      refine Eq.trans (rr_iconst rfl rfl) ?_
      refine Eq.trans (rr_iload rfl rfl) ?_
      refine Eq.trans (rr_iconst rfl rfl) ?_
      refine Eq.trans (rr_isub rfl) ?_
      refine Eq.trans (rr_invS2i (S' := [.inl l4, .inl l3, .inl (am_w (l2 + 1)), .inr (.inr (am_get ω l0.toNat 27))]) (L' := [some (.inl 0), some (.inl (am_w (l5 - 1)))]) (m' := (236, 0)) rfl rfl rfl rfl rfl rfl) ?_
      refine bi_cg (fun z3 ω3 => ?_)
      refine Eq.trans (rr_invS2i (S' := [.inr (.inr (am_get ω l0.toNat 27))]) (L' := [some (.inl (am_w (l2 + 1))), some (.inl l3), some (.inl l4), some (.inl z3)]) (m' := (208, 0)) rfl rfl rfl rfl rfl rfl) ?_
      refine bi_cg (fun z4 ω4 => ?_)
      refine ck_it (fun h => rr_iaload rfl rfl h) (fun h => rr_iaload_no rfl rfl h) (fun h4 => ?_)
      exact rr_ireturn rfl rfl
theorem pX7_ahead_62 (l0 l1 l2 l3 l4 l5 l6 l7 s0 : Int) (o8 : Option am_V) (ω : am_W) (h1 : am_is ω l0 (7, 30) = true) : am_run (210, 0) 62 ([some (.inr (.inr l0)), some (.inl l1), some (.inl l2), some (.inl l3), some (.inl l4), some (.inl l5), some (.inl l6), some (.inl l7), o8], [.inl s0], ω) = if l7 = 0 then (some (some (.inl 10000), ω)) else (if 0 < l5 then (some (some (.inl 10000), ω)) else (am_bi (am_run (153, 0) 0 ([some (.inr (.inr l0)), some (.inl s0)], [], ω)) (fun z1 ω1 => if ¬ z1 = 0 then (am_bi (am_run (237, 0) 0 ([some (.inl l3), some (.inl s0)], [], ω1)) (fun z2 ω2 => if am_is ω2 l0 (7, 30) = true then (am_bi (am_run (184, 0) 0 ([some (.inr (.inr l0)), some (.inl l1), some (.inl z2)], [], ω2)) (fun z3 ω3 => if am_is ω3 l0 (7, 30) = true then (am_bi (am_run (186, 0) 0 ([some (.inr (.inr l0)), some (.inl l4), some (.inl l3), some (.inl s0)], [], ω3)) (fun z4 ω4 => if am_is ω4 l0 (7, 30) = true then (if am_in ω4 (am_get ω4 l0.toNat 4) 100 l3 = true then (am_bi (am_run (185, 0) 0 ([some (.inl (am_get ω4 (am_get ω4 l0.toNat 4).toNat l3.toNat))], [], ω4)) (fun z5 ω5 => am_bi (am_run (208, 0) 0 ([some (.inl (am_w (l2 + 1))), some (.inl s0), some (.inl z4), some (.inl (am_w (z5 - 1)))], [], ω5)) (fun z6 ω6 => if am_in ω6 (am_get ω3 l0.toNat 27) 100 z6 = true then (am_bi (am_run (237, 0) 0 ([some (.inl 10000), some (.inl (am_w (z3 + (am_get ω6 (am_get ω3 l0.toNat 27).toNat z6.toNat))))], [], ω6)) (fun z7 ω7 => some (some (.inl z7), ω7))) else none))) else none) else none)) else none)) else none)) else (some (some (.inl 10000), ω1))))) := by
  refine Eq.trans (rr_istore (L' := [some (.inr (.inr l0)), some (.inl l1), some (.inl l2), some (.inl l3), some (.inl l4), some (.inl l5), some (.inl l6), some (.inl l7), some (.inl s0)]) rfl rfl) ?_
  refine Eq.trans (rr_iload rfl rfl) ?_
  refine Eq.trans (rr_if_eq rfl rfl) (it_cg (fun _ => ?_) (fun _ => ?_))
  · refine Eq.trans (rr_sipush rfl rfl) ?_
    exact rr_ireturn rfl rfl
  · refine Eq.trans (rr_iload rfl rfl) ?_
    refine Eq.trans (rr_if_gt rfl rfl) (it_cg (fun _ => ?_) (fun _ => ?_))
    · refine Eq.trans (rr_sipush rfl rfl) ?_
      exact rr_ireturn rfl rfl
    · refine Eq.trans (rr_aload_n rfl rfl) ?_
      refine Eq.trans (rr_iload rfl rfl) ?_
      refine Eq.trans (rr_invV0i (S' := []) (L' := [some (.inr (.inr l0)), some (.inl s0)]) (m' := (153, 0)) rfl rfl rfl rfl rfl rfl h1) ?_
      refine bi_cg (fun z1 ω1 => ?_)
      refine Eq.trans (rr_if_ne rfl rfl) (it_cg (fun _ => ?_) (fun _ => ?_))
      · refine Eq.trans (rr_sipush rfl rfl) ?_
        refine Eq.trans (rr_aload_n rfl rfl) ?_
        refine Eq.trans (rr_iload_n rfl rfl) ?_
        refine Eq.trans (rr_iload_n rfl rfl) ?_
        refine Eq.trans (rr_iload rfl rfl) ?_
        refine Eq.trans (rr_invS2i (S' := [.inl l1, .inr (.inr l0), .inl 10000]) (L' := [some (.inl l3), some (.inl s0)]) (m' := (237, 0)) rfl rfl rfl rfl rfl rfl) ?_
        refine bi_cg (fun z2 ω2 => ?_)
        refine ck_it (fun h => rr_invV0i (S' := [.inl 10000]) (L' := [some (.inr (.inr l0)), some (.inl l1), some (.inl z2)]) (m' := (184, 0)) rfl rfl rfl rfl rfl rfl h) (fun h => rr_invV0_no (S' := [.inl 10000]) (L' := [some (.inr (.inr l0)), some (.inl l1), some (.inl z2)]) (m' := (184, 0)) rfl rfl rfl rfl rfl rfl h) (fun h2 => ?_)
        refine bi_cg (fun z3 ω3 => ?_)
        refine Eq.trans (rr_aload_n rfl rfl) ?_
        refine ck_it (fun h => rr_getfr rfl rfl rfl h) (fun h => rr_getfield_no rfl rfl h) (fun h3 => ?_)
        refine Eq.trans (rr_iload_n rfl rfl) ?_
        refine Eq.trans (rr_iconst rfl rfl) ?_
        refine Eq.trans (rr_iadd rfl) ?_
        refine Eq.trans (rr_iload rfl rfl) ?_
        refine Eq.trans (rr_aload_n rfl rfl) ?_
        refine Eq.trans (rr_iload rfl rfl) ?_
        refine Eq.trans (rr_iload_n rfl rfl) ?_
        refine Eq.trans (rr_iload rfl rfl) ?_
        refine Eq.trans (rr_invV0i (S' := [.inl s0, .inl (am_w (l2 + 1)), .inr (.inr (am_get ω3 l0.toNat 27)), .inl z3, .inl 10000]) (L' := [some (.inr (.inr l0)), some (.inl l4), some (.inl l3), some (.inl s0)]) (m' := (186, 0)) rfl rfl rfl rfl rfl rfl h3) ?_
        refine bi_cg (fun z4 ω4 => ?_)
        refine Eq.trans (rr_aload_n rfl rfl) ?_
        refine ck_it (fun h => rr_getfr rfl rfl rfl h) (fun h => rr_getfield_no rfl rfl h) (fun h4 => ?_)
        refine Eq.trans (rr_iload_n rfl rfl) ?_
        refine ck_it (fun h => rr_iaload rfl rfl h) (fun h => rr_iaload_no rfl rfl h) (fun h5 => ?_)
        refine Eq.trans (rr_invS2i (S' := [.inl z4, .inl s0, .inl (am_w (l2 + 1)), .inr (.inr (am_get ω3 l0.toNat 27)), .inl z3, .inl 10000]) (L' := [some (.inl (am_get ω4 (am_get ω4 l0.toNat 4).toNat l3.toNat))]) (m' := (185, 0)) rfl rfl rfl rfl rfl rfl) ?_
        refine bi_cg (fun z5 ω5 => ?_)
        refine Eq.trans (rr_iconst rfl rfl) ?_
        refine Eq.trans (rr_isub rfl) ?_
        refine Eq.trans (rr_invS2i (S' := [.inr (.inr (am_get ω3 l0.toNat 27)), .inl z3, .inl 10000]) (L' := [some (.inl (am_w (l2 + 1))), some (.inl s0), some (.inl z4), some (.inl (am_w (z5 - 1)))]) (m' := (208, 0)) rfl rfl rfl rfl rfl rfl) ?_
        refine bi_cg (fun z6 ω6 => ?_)
        refine ck_it (fun h => rr_iaload rfl rfl h) (fun h => rr_iaload_no rfl rfl h) (fun h6 => ?_)
        refine Eq.trans (rr_iadd rfl) ?_
        refine Eq.trans (rr_invS2i (S' := []) (L' := [some (.inl 10000), some (.inl (am_w (z3 + (am_get ω6 (am_get ω3 l0.toNat 27).toNat z6.toNat))))]) (m' := (237, 0)) rfl rfl rfl rfl rfl rfl) ?_
        refine bi_cg (fun z7 ω7 => ?_)
        exact rr_ireturn rfl rfl
      · refine Eq.trans (rr_sipush rfl rfl) ?_
        exact rr_ireturn rfl rfl
theorem pX7_round_0 (l0 l1 l2 l3 : Int) (ω : am_W) (h1 : am_is ω l0 (7, 30) = true) : am_run (211, 0) 0 ([some (.inr (.inr l0)), some (.inl l1), some (.inl l2), some (.inl l3), none, none, none, none, none, none, none, none, none], [], ω) = am_bi (am_run (151, 0) 0 ([some (.inr (.inr l0)), some (.inl l1)], [], ω)) (fun z1 ω1 => if z1 = 0 then (if am_is ω1 l0 (7, 30) = true then (am_bi (am_run (148, 0) 0 ([some (.inr (.inr l0)), some (.inl ((-2)))], [], ω1)) (fun z2 ω2 => some (some (.inl z2), ω2))) else none) else (if am_is ω1 l0 (7, 30) = true then (am_bi (am_run (149, 0) 0 ([some (.inl l2), some (.inl 0), some (.inl (am_w ((am_shl 1 (am_get ω1 l0.toNat 6)) - 1)))], [], ω1)) (fun z3 ω3 => if z3 = 0 then (if am_is ω3 l0 (7, 30) = true then (am_bi (am_run (148, 0) 0 ([some (.inr (.inr l0)), some (.inl ((-2)))], [], ω3)) (fun z4 ω4 => some (some (.inl z4), ω4))) else none) else (am_bi (am_run (150, 0) 0 ([some (.inl l2), some (.inl l1)], [], ω3)) (fun z5 ω5 => if ¬ z5 = 0 then (if am_is ω5 l0 (7, 30) = true then (am_bi (am_run (148, 0) 0 ([some (.inr (.inr l0)), some (.inl ((-2)))], [], ω5)) (fun z6 ω6 => some (some (.inl z6), ω6))) else none) else (am_bi (am_run (234, 0) 0 ([some (.inl l2)], [], ω5)) (fun z7 ω7 => if 3 < z7 then (if am_is ω7 l0 (7, 30) = true then (am_bi (am_run (148, 0) 0 ([some (.inr (.inr l0)), some (.inl ((-2)))], [], ω7)) (fun z8 ω8 => some (some (.inl z8), ω8))) else none) else (am_bi (am_run (149, 0) 0 ([some (.inl l3), some (.inl 0), some (.inl 60)], [], ω7)) (fun z9 ω9 => if ¬ z9 = 0 then (am_bi (am_run (234, 0) 0 ([some (.inl l2)], [], ω9)) (fun z10 ω10 => if am_is ω10 l0 (7, 30) = true then (am_bv (am_run (201, 0) 0 ([some (.inr (.inr l0)), some (.inl l1), some (.inl 0), none], [], ω10)) (fun ω11 => am_run (211, 0) 81 ([some (.inr (.inr l0)), some (.inl l1), some (.inl l2), some (.inl l3), some (.inl (am_w ((am_shl 1 z10) - 1))), some (.inl 10000), some (.inl 0), none, none, none, none, none, none], [], ω11))) else none)) else (if am_is ω9 l0 (7, 30) = true then (am_bi (am_run (148, 0) 0 ([some (.inr (.inr l0)), some (.inl ((-2)))], [], ω9)) (fun z12 ω12 => some (some (.inl z12), ω12))) else none))))))))) else none)) := by
  refine Eq.trans (rr_aload_n rfl rfl) ?_
  refine Eq.trans (rr_iload_n rfl rfl) ?_
  refine Eq.trans (rr_invV0i (S' := []) (L' := [some (.inr (.inr l0)), some (.inl l1)]) (m' := (151, 0)) rfl rfl rfl rfl rfl rfl h1) ?_
  refine bi_cg (fun z1 ω1 => ?_)
  refine Eq.trans (rr_if_eq rfl rfl) (it_cg (fun _ => ?_) (fun _ => ?_))
  · refine Eq.trans (rr_aload_n rfl rfl) ?_
    refine Eq.trans (rr_bipush rfl rfl) ?_
    refine ck_it (fun h => rr_invV0i (S' := []) (L' := [some (.inr (.inr l0)), some (.inl ((-2)))]) (m' := (148, 0)) rfl rfl rfl rfl rfl rfl h) (fun h => rr_invV0_no (S' := []) (L' := [some (.inr (.inr l0)), some (.inl ((-2)))]) (m' := (148, 0)) rfl rfl rfl rfl rfl rfl h) (fun h2 => ?_)
    refine bi_cg (fun z2 ω2 => ?_)
    exact rr_ireturn rfl rfl
  · refine Eq.trans (rr_iload_n rfl rfl) ?_
    refine Eq.trans (rr_iconst rfl rfl) ?_
    refine Eq.trans (rr_iconst rfl rfl) ?_
    refine Eq.trans (rr_aload_n rfl rfl) ?_
    refine ck_it (fun h => rr_getfi rfl rfl rfl h) (fun h => rr_getfield_no rfl rfl h) (fun h3 => ?_)
    refine Eq.trans (rr_ishl rfl) ?_
    refine Eq.trans (rr_iconst rfl rfl) ?_
    refine Eq.trans (rr_isub rfl) ?_
    refine Eq.trans (rr_invS2i (S' := []) (L' := [some (.inl l2), some (.inl 0), some (.inl (am_w ((am_shl 1 (am_get ω1 l0.toNat 6)) - 1)))]) (m' := (149, 0)) rfl rfl rfl rfl rfl rfl) ?_
    refine bi_cg (fun z3 ω3 => ?_)
    refine Eq.trans (rr_if_eq rfl rfl) (it_cg (fun _ => ?_) (fun _ => ?_))
    · refine Eq.trans (rr_aload_n rfl rfl) ?_
      refine Eq.trans (rr_bipush rfl rfl) ?_
      refine ck_it (fun h => rr_invV0i (S' := []) (L' := [some (.inr (.inr l0)), some (.inl ((-2)))]) (m' := (148, 0)) rfl rfl rfl rfl rfl rfl h) (fun h => rr_invV0_no (S' := []) (L' := [some (.inr (.inr l0)), some (.inl ((-2)))]) (m' := (148, 0)) rfl rfl rfl rfl rfl rfl h) (fun h4 => ?_)
      refine bi_cg (fun z4 ω4 => ?_)
      exact rr_ireturn rfl rfl
    · refine Eq.trans (rr_iload_n rfl rfl) ?_
      refine Eq.trans (rr_iload_n rfl rfl) ?_
      refine Eq.trans (rr_invS2i (S' := []) (L' := [some (.inl l2), some (.inl l1)]) (m' := (150, 0)) rfl rfl rfl rfl rfl rfl) ?_
      refine bi_cg (fun z5 ω5 => ?_)
      refine Eq.trans (rr_if_ne rfl rfl) (it_cg (fun _ => ?_) (fun _ => ?_))
      · refine Eq.trans (rr_aload_n rfl rfl) ?_
        refine Eq.trans (rr_bipush rfl rfl) ?_
        refine ck_it (fun h => rr_invV0i (S' := []) (L' := [some (.inr (.inr l0)), some (.inl ((-2)))]) (m' := (148, 0)) rfl rfl rfl rfl rfl rfl h) (fun h => rr_invV0_no (S' := []) (L' := [some (.inr (.inr l0)), some (.inl ((-2)))]) (m' := (148, 0)) rfl rfl rfl rfl rfl rfl h) (fun h5 => ?_)
        refine bi_cg (fun z6 ω6 => ?_)
        exact rr_ireturn rfl rfl
      · refine Eq.trans (rr_iload_n rfl rfl) ?_
        refine Eq.trans (rr_invS2i (S' := []) (L' := [some (.inl l2)]) (m' := (234, 0)) rfl rfl rfl rfl rfl rfl) ?_
        refine bi_cg (fun z7 ω7 => ?_)
        refine Eq.trans (rr_iconst rfl rfl) ?_
        refine Eq.trans (rr_icmp_gt rfl rfl) (it_cg (fun _ => ?_) (fun _ => ?_))
        · refine Eq.trans (rr_aload_n rfl rfl) ?_
          refine Eq.trans (rr_bipush rfl rfl) ?_
          refine ck_it (fun h => rr_invV0i (S' := []) (L' := [some (.inr (.inr l0)), some (.inl ((-2)))]) (m' := (148, 0)) rfl rfl rfl rfl rfl rfl h) (fun h => rr_invV0_no (S' := []) (L' := [some (.inr (.inr l0)), some (.inl ((-2)))]) (m' := (148, 0)) rfl rfl rfl rfl rfl rfl h) (fun h6 => ?_)
          refine bi_cg (fun z8 ω8 => ?_)
          exact rr_ireturn rfl rfl
        · refine Eq.trans (rr_iload_n rfl rfl) ?_
          refine Eq.trans (rr_iconst rfl rfl) ?_
          refine Eq.trans (rr_bipush rfl rfl) ?_
          refine Eq.trans (rr_invS2i (S' := []) (L' := [some (.inl l3), some (.inl 0), some (.inl 60)]) (m' := (149, 0)) rfl rfl rfl rfl rfl rfl) ?_
          refine bi_cg (fun z9 ω9 => ?_)
          refine Eq.trans (rr_if_ne rfl rfl) (it_cg (fun _ => ?_) (fun _ => ?_))
          · refine Eq.trans (rr_iconst rfl rfl) ?_
            refine Eq.trans (rr_iload_n rfl rfl) ?_
            refine Eq.trans (rr_invS2i (S' := [.inl 1]) (L' := [some (.inl l2)]) (m' := (234, 0)) rfl rfl rfl rfl rfl rfl) ?_
            refine bi_cg (fun z10 ω10 => ?_)
            refine Eq.trans (rr_ishl rfl) ?_
            refine Eq.trans (rr_iconst rfl rfl) ?_
            refine Eq.trans (rr_isub rfl) ?_
            refine Eq.trans (rr_istore (L' := [some (.inr (.inr l0)), some (.inl l1), some (.inl l2), some (.inl l3), some (.inl (am_w ((am_shl 1 z10) - 1))), none, none, none, none, none, none, none, none]) rfl rfl) ?_
            refine Eq.trans (rr_sipush rfl rfl) ?_
            refine Eq.trans (rr_istore (L' := [some (.inr (.inr l0)), some (.inl l1), some (.inl l2), some (.inl l3), some (.inl (am_w ((am_shl 1 z10) - 1))), some (.inl 10000), none, none, none, none, none, none, none]) rfl rfl) ?_
            refine Eq.trans (rr_aload_n rfl rfl) ?_
            refine Eq.trans (rr_iload_n rfl rfl) ?_
            refine Eq.trans (rr_iconst rfl rfl) ?_
            refine ck_it (fun h => rr_invV0v (S' := []) (L' := [some (.inr (.inr l0)), some (.inl l1), some (.inl 0), none]) (m' := (201, 0)) rfl rfl rfl rfl rfl rfl h) (fun h => rr_invV0_no (S' := []) (L' := [some (.inr (.inr l0)), some (.inl l1), some (.inl 0), none]) (m' := (201, 0)) rfl rfl rfl rfl rfl rfl h) (fun h7 => ?_)
            refine bv_cg (fun ω11 => ?_)
            refine Eq.trans (rr_iconst rfl rfl) ?_
            refine Eq.trans (rr_istore (L' := [some (.inr (.inr l0)), some (.inl l1), some (.inl l2), some (.inl l3), some (.inl (am_w ((am_shl 1 z10) - 1))), some (.inl 10000), some (.inl 0), none, none, none, none, none, none]) rfl rfl) ?_
            rfl
          · refine Eq.trans (rr_aload_n rfl rfl) ?_
            refine Eq.trans (rr_bipush rfl rfl) ?_
            refine ck_it (fun h => rr_invV0i (S' := []) (L' := [some (.inr (.inr l0)), some (.inl ((-2)))]) (m' := (148, 0)) rfl rfl rfl rfl rfl rfl h) (fun h => rr_invV0_no (S' := []) (L' := [some (.inr (.inr l0)), some (.inl ((-2)))]) (m' := (148, 0)) rfl rfl rfl rfl rfl rfl h) (fun h8 => ?_)
            refine bi_cg (fun z12 ω12 => ?_)
            exact rr_ireturn rfl rfl
theorem pX7_round_81 (l0 l1 l2 l3 l4 l5 l6 : Int) (o7 o8 o9 o10 o11 o12 : Option am_V) (ω : am_W) (h1 : am_is ω l0 (7, 30) = true) : am_run (211, 0) 81 ([some (.inr (.inr l0)), some (.inl l1), some (.inl l2), some (.inl l3), some (.inl l4), some (.inl l5), some (.inl l6), o7, o8, o9, o10, o11, o12], [], ω) = if l3 < l6 then (if ¬ l5 = 10000 then (some (some (.inl l5), ω)) else (some (some (.inl ((-1))), ω))) else (if l6 ≤ 0 then (am_run (211, 0) 103 ([some (.inr (.inr l0)), some (.inl l1), some (.inl l2), some (.inl l3), some (.inl l4), some (.inl l5), some (.inl l6), some (.inl 0), some (.inl 0), o9, o10, o11, o12], [], ω)) else (am_bv (am_run (203, 0) 0 ([some (.inr (.inr l0)), some (.inl l1), none, none, none, none, none, none, none], [], ω)) (fun ω1 => am_run (211, 0) 103 ([some (.inr (.inr l0)), some (.inl l1), some (.inl l2), some (.inl l3), some (.inl l4), some (.inl l5), some (.inl l6), some (.inl 0), some (.inl 0), o9, o10, o11, o12], [], ω1)))) := by
  refine Eq.trans (rr_iload rfl rfl) ?_
  refine Eq.trans (rr_iload_n rfl rfl) ?_
  refine Eq.trans (rr_icmp_gt rfl rfl) (it_cg (fun _ => ?_) (fun _ => ?_))
  · refine Eq.trans (rr_iload rfl rfl) ?_
    refine Eq.trans (rr_sipush rfl rfl) ?_
    refine Eq.trans (rr_icmp_ne rfl rfl) (it_cg (fun _ => ?_) (fun _ => ?_))
    · refine Eq.trans (rr_iload rfl rfl) ?_
      exact rr_ireturn rfl rfl
    · refine Eq.trans (rr_iconst rfl rfl) ?_
      refine Eq.trans (rr_goto rfl rfl) ?_
      exact rr_ireturn rfl rfl
  · refine Eq.trans (rr_iload rfl rfl) ?_
    refine Eq.trans (rr_if_le rfl rfl) (it_cg (fun _ => ?_) (fun _ => ?_))
    · refine Eq.trans (rr_iconst rfl rfl) ?_
      refine Eq.trans (rr_istore (L' := [some (.inr (.inr l0)), some (.inl l1), some (.inl l2), some (.inl l3), some (.inl l4), some (.inl l5), some (.inl l6), some (.inl 0), o8, o9, o10, o11, o12]) rfl rfl) ?_
      refine Eq.trans (rr_iconst rfl rfl) ?_
      refine Eq.trans (rr_istore (L' := [some (.inr (.inr l0)), some (.inl l1), some (.inl l2), some (.inl l3), some (.inl l4), some (.inl l5), some (.inl l6), some (.inl 0), some (.inl 0), o9, o10, o11, o12]) rfl rfl) ?_
      rfl
    · refine Eq.trans (rr_aload_n rfl rfl) ?_
      refine Eq.trans (rr_iload_n rfl rfl) ?_
      refine Eq.trans (rr_invV0v (S' := []) (L' := [some (.inr (.inr l0)), some (.inl l1), none, none, none, none, none, none, none]) (m' := (203, 0)) rfl rfl rfl rfl rfl rfl h1) ?_
      refine bv_cg (fun ω1 => ?_)
      refine Eq.trans (rr_iconst rfl rfl) ?_
      refine Eq.trans (rr_istore (L' := [some (.inr (.inr l0)), some (.inl l1), some (.inl l2), some (.inl l3), some (.inl l4), some (.inl l5), some (.inl l6), some (.inl 0), o8, o9, o10, o11, o12]) rfl rfl) ?_
      refine Eq.trans (rr_iconst rfl rfl) ?_
      refine Eq.trans (rr_istore (L' := [some (.inr (.inr l0)), some (.inl l1), some (.inl l2), some (.inl l3), some (.inl l4), some (.inl l5), some (.inl l6), some (.inl 0), some (.inl 0), o9, o10, o11, o12]) rfl rfl) ?_
      rfl
theorem pX7_round_103 (l0 l1 l2 l3 l4 l5 l6 l7 l8 : Int) (o9 o10 o11 o12 : Option am_V) (ω : am_W) (h1 : am_is ω l0 (7, 30) = true) : am_run (211, 0) 103 ([some (.inr (.inr l0)), some (.inl l1), some (.inl l2), some (.inl l3), some (.inl l4), some (.inl l5), some (.inl l6), some (.inl l7), some (.inl l8), o9, o10, o11, o12], [], ω) = if (am_get ω l0.toNat 6) ≤ l8 then (am_run (211, 0) 238 ([some (.inr (.inr l0)), some (.inl l1), some (.inl l2), some (.inl l3), some (.inl l4), some (.inl l5), some (.inl l6), some (.inl l7), some (.inl 0), o9, o10, o11, o12], [], ω)) else (am_bi (am_run (150, 0) 0 ([some (.inl l2), some (.inl l8)], [], ω)) (fun z1 ω1 => if ¬ z1 = 0 then (if am_is ω1 l0 (7, 30) = true then (am_bi (am_run (204, 0) 0 ([some (.inr (.inr l0)), some (.inl l8), some (.inl l6)], [], ω1)) (fun z2 ω2 => am_run (211, 0) 137 ([some (.inr (.inr l0)), some (.inl l1), some (.inl l2), some (.inl l3), some (.inl l4), some (.inl l5), some (.inl l6), some (.inl l7), some (.inl l8), some (.inl z2), some (.inl 0), o11, o12], [], ω2))) else none) else (am_run (211, 0) 103 ([some (.inr (.inr l0)), some (.inl l1), some (.inl l2), some (.inl l3), some (.inl l4), some (.inl l5), some (.inl l6), some (.inl l7), some (.inl (am_w (l8 + 1))), o9, o10, o11, o12], [], ω1)))) := by
  refine Eq.trans (rr_iload rfl rfl) ?_
  refine Eq.trans (rr_aload_n rfl rfl) ?_
  refine Eq.trans (rr_getfi rfl rfl rfl h1) ?_
  refine Eq.trans (rr_icmp_ge rfl rfl) (it_cg (fun _ => ?_) (fun _ => ?_))
  · refine Eq.trans (rr_iconst rfl rfl) ?_
    refine Eq.trans (rr_istore (L' := [some (.inr (.inr l0)), some (.inl l1), some (.inl l2), some (.inl l3), some (.inl l4), some (.inl l5), some (.inl l6), some (.inl l7), some (.inl 0), o9, o10, o11, o12]) rfl rfl) ?_
    rfl
  · refine Eq.trans (rr_iload_n rfl rfl) ?_
    refine Eq.trans (rr_iload rfl rfl) ?_
    refine Eq.trans (rr_invS2i (S' := []) (L' := [some (.inl l2), some (.inl l8)]) (m' := (150, 0)) rfl rfl rfl rfl rfl rfl) ?_
    refine bi_cg (fun z1 ω1 => ?_)
    refine Eq.trans (rr_if_ne rfl rfl) (it_cg (fun _ => ?_) (fun _ => ?_))
    · refine Eq.trans (rr_aload_n rfl rfl) ?_
      refine Eq.trans (rr_iload rfl rfl) ?_
      refine Eq.trans (rr_iload rfl rfl) ?_
      refine ck_it (fun h => rr_invV0i (S' := []) (L' := [some (.inr (.inr l0)), some (.inl l8), some (.inl l6)]) (m' := (204, 0)) rfl rfl rfl rfl rfl rfl h) (fun h => rr_invV0_no (S' := []) (L' := [some (.inr (.inr l0)), some (.inl l8), some (.inl l6)]) (m' := (204, 0)) rfl rfl rfl rfl rfl rfl h) (fun h2 => ?_)
      refine bi_cg (fun z2 ω2 => ?_)
      refine Eq.trans (rr_istore (L' := [some (.inr (.inr l0)), some (.inl l1), some (.inl l2), some (.inl l3), some (.inl l4), some (.inl l5), some (.inl l6), some (.inl l7), some (.inl l8), some (.inl z2), o10, o11, o12]) rfl rfl) ?_
      refine Eq.trans (rr_iconst rfl rfl) ?_
      refine Eq.trans (rr_istore (L' := [some (.inr (.inr l0)), some (.inl l1), some (.inl l2), some (.inl l3), some (.inl l4), some (.inl l5), some (.inl l6), some (.inl l7), some (.inl l8), some (.inl z2), some (.inl 0), o11, o12]) rfl rfl) ?_
      rfl
    · refine Eq.trans (rr_goto rfl rfl) ?_
      refine Eq.trans (rr_iinc (L' := [some (.inr (.inr l0)), some (.inl l1), some (.inl l2), some (.inl l3), some (.inl l4), some (.inl l5), some (.inl l6), some (.inl l7), some (.inl (am_w (l8 + 1))), o9, o10, o11, o12]) rfl rfl rfl) ?_
      refine Eq.trans (rr_goto rfl rfl) ?_
      rfl
theorem pX7_round_137 (l0 l1 l2 l3 l4 l5 l6 l7 l8 l9 l10 : Int) (o11 o12 : Option am_V) (ω : am_W) (h1 : am_is ω l0 (7, 30) = true) : am_run (211, 0) 137 ([some (.inr (.inr l0)), some (.inl l1), some (.inl l2), some (.inl l3), some (.inl l4), some (.inl l5), some (.inl l6), some (.inl l7), some (.inl l8), some (.inl l9), some (.inl l10), o11, o12], [], ω) = if 8 ≤ l10 then (am_run (211, 0) 103 ([some (.inr (.inr l0)), some (.inl l1), some (.inl l2), some (.inl l3), some (.inl l4), some (.inl l5), some (.inl l6), some (.inl (am_w (l7 + 1))), some (.inl (am_w (l8 + 1))), some (.inl l9), some (.inl l10), o11, o12], [], ω)) else (if l9 = ((-1)) then (am_run (211, 0) 103 ([some (.inr (.inr l0)), some (.inl l1), some (.inl l2), some (.inl l3), some (.inl l4), some (.inl l5), some (.inl l6), some (.inl (am_w (l7 + 1))), some (.inl (am_w (l8 + 1))), some (.inl l9), some (.inl l10), o11, o12], [], ω)) else (if am_in ω (am_get ω l0.toNat 8) 100 l8 = true then (am_bi (am_run (200, 0) 0 ([some (.inl (am_get ω (am_get ω l0.toNat 8).toNat l8.toNat)), some (.inl l9), some (.inl 0), some (.inl l10)], [], ω)) (fun z1 ω1 => if am_is ω1 l0 (7, 30) = true then (if am_in ω1 (am_get ω1 l0.toNat 8) 100 l8 = true then (am_bi (am_run (200, 0) 0 ([some (.inl (am_get ω1 (am_get ω1 l0.toNat 8).toNat l8.toNat)), some (.inl l9), some (.inl 0), some (.inl (am_or l10 (am_shl 1 l7)))], [], ω1)) (fun z2 ω2 => if am_is ω2 l0 (7, 30) = true then (if am_in ω2 (am_get ω2 l0.toNat 25) 100 z1 = true then (if am_in ω2 (am_get ω2 l0.toNat 25) 100 z2 = true then (if (am_get ω2 (am_get ω2 l0.toNat 25).toNat z2.toNat) ≤ (am_get ω2 (am_get ω2 l0.toNat 25).toNat z1.toNat) then (am_run (211, 0) 137 ([some (.inr (.inr l0)), some (.inl l1), some (.inl l2), some (.inl l3), some (.inl l4), some (.inl l5), some (.inl l6), some (.inl l7), some (.inl l8), some (.inl l9), some (.inl (am_w (l10 + 1))), some (.inl z1), some (.inl z2)], [], ω2)) else (am_run (211, 0) 137 ([some (.inr (.inr l0)), some (.inl l1), some (.inl l2), some (.inl l3), some (.inl l4), some (.inl l5), some (.inl l6), some (.inl l7), some (.inl l8), some (.inl l9), some (.inl (am_w (l10 + 1))), some (.inl z1), some (.inl z2)], [], am_put ω2 (am_get ω2 l0.toNat 25).toNat z2.toNat (am_get ω2 (am_get ω2 l0.toNat 25).toNat z1.toNat)))) else none) else none) else none)) else none) else none)) else none)) := by
  refine Eq.trans (rr_iload rfl rfl) ?_
  refine Eq.trans (rr_bipush rfl rfl) ?_
  refine Eq.trans (rr_icmp_ge rfl rfl) (it_cg (fun _ => ?_) (fun _ => ?_))
  · refine Eq.trans (rr_iinc (L' := [some (.inr (.inr l0)), some (.inl l1), some (.inl l2), some (.inl l3), some (.inl l4), some (.inl l5), some (.inl l6), some (.inl (am_w (l7 + 1))), some (.inl l8), some (.inl l9), some (.inl l10), o11, o12]) rfl rfl rfl) ?_
    refine Eq.trans (rr_iinc (L' := [some (.inr (.inr l0)), some (.inl l1), some (.inl l2), some (.inl l3), some (.inl l4), some (.inl l5), some (.inl l6), some (.inl (am_w (l7 + 1))), some (.inl (am_w (l8 + 1))), some (.inl l9), some (.inl l10), o11, o12]) rfl rfl rfl) ?_
    refine Eq.trans (rr_goto rfl rfl) ?_
    rfl
  · refine Eq.trans (rr_iload rfl rfl) ?_
    refine Eq.trans (rr_iconst rfl rfl) ?_
    refine Eq.trans (rr_icmp_eq rfl rfl) (it_cg (fun _ => ?_) (fun _ => ?_))
    · refine Eq.trans (rr_iinc (L' := [some (.inr (.inr l0)), some (.inl l1), some (.inl l2), some (.inl l3), some (.inl l4), some (.inl l5), some (.inl l6), some (.inl (am_w (l7 + 1))), some (.inl l8), some (.inl l9), some (.inl l10), o11, o12]) rfl rfl rfl) ?_
      refine Eq.trans (rr_iinc (L' := [some (.inr (.inr l0)), some (.inl l1), some (.inl l2), some (.inl l3), some (.inl l4), some (.inl l5), some (.inl l6), some (.inl (am_w (l7 + 1))), some (.inl (am_w (l8 + 1))), some (.inl l9), some (.inl l10), o11, o12]) rfl rfl rfl) ?_
      refine Eq.trans (rr_goto rfl rfl) ?_
      rfl
    · refine Eq.trans (rr_aload_n rfl rfl) ?_
      refine Eq.trans (rr_getfr rfl rfl rfl h1) ?_
      refine Eq.trans (rr_iload rfl rfl) ?_
      refine ck_it (fun h => rr_iaload rfl rfl h) (fun h => rr_iaload_no rfl rfl h) (fun h2 => ?_)
      refine Eq.trans (rr_iload rfl rfl) ?_
      refine Eq.trans (rr_iconst rfl rfl) ?_
      refine Eq.trans (rr_iload rfl rfl) ?_
      refine Eq.trans (rr_invS2i (S' := []) (L' := [some (.inl (am_get ω (am_get ω l0.toNat 8).toNat l8.toNat)), some (.inl l9), some (.inl 0), some (.inl l10)]) (m' := (200, 0)) rfl rfl rfl rfl rfl rfl) ?_
      refine bi_cg (fun z1 ω1 => ?_)
      refine Eq.trans (rr_istore (L' := [some (.inr (.inr l0)), some (.inl l1), some (.inl l2), some (.inl l3), some (.inl l4), some (.inl l5), some (.inl l6), some (.inl l7), some (.inl l8), some (.inl l9), some (.inl l10), some (.inl z1), o12]) rfl rfl) ?_
      refine Eq.trans (rr_aload_n rfl rfl) ?_
      refine ck_it (fun h => rr_getfr rfl rfl rfl h) (fun h => rr_getfield_no rfl rfl h) (fun h3 => ?_)
      refine Eq.trans (rr_iload rfl rfl) ?_
      refine ck_it (fun h => rr_iaload rfl rfl h) (fun h => rr_iaload_no rfl rfl h) (fun h4 => ?_)
      refine Eq.trans (rr_iload rfl rfl) ?_
      refine Eq.trans (rr_iconst rfl rfl) ?_
      refine Eq.trans (rr_iload rfl rfl) ?_
      refine Eq.trans (rr_iconst rfl rfl) ?_
      refine Eq.trans (rr_iload rfl rfl) ?_
      refine Eq.trans (rr_ishl rfl) ?_
      refine Eq.trans (rr_ior rfl) ?_
      refine Eq.trans (rr_invS2i (S' := []) (L' := [some (.inl (am_get ω1 (am_get ω1 l0.toNat 8).toNat l8.toNat)), some (.inl l9), some (.inl 0), some (.inl (am_or l10 (am_shl 1 l7)))]) (m' := (200, 0)) rfl rfl rfl rfl rfl rfl) ?_
      refine bi_cg (fun z2 ω2 => ?_)
      refine Eq.trans (rr_istore (L' := [some (.inr (.inr l0)), some (.inl l1), some (.inl l2), some (.inl l3), some (.inl l4), some (.inl l5), some (.inl l6), some (.inl l7), some (.inl l8), some (.inl l9), some (.inl l10), some (.inl z1), some (.inl z2)]) rfl rfl) ?_
      refine Eq.trans (rr_aload_n rfl rfl) ?_
      refine ck_it (fun h => rr_getfr rfl rfl rfl h) (fun h => rr_getfield_no rfl rfl h) (fun h5 => ?_)
      refine Eq.trans (rr_iload rfl rfl) ?_
      refine ck_it (fun h => rr_iaload rfl rfl h) (fun h => rr_iaload_no rfl rfl h) (fun h6 => ?_)
      refine Eq.trans (rr_aload_n rfl rfl) ?_
      refine Eq.trans (rr_getfr rfl rfl rfl h5) ?_
      refine Eq.trans (rr_iload rfl rfl) ?_
      refine ck_it (fun h => rr_iaload rfl rfl h) (fun h => rr_iaload_no rfl rfl h) (fun h7 => ?_)
      refine Eq.trans (rr_icmp_ge rfl rfl) (it_cg (fun _ => ?_) (fun _ => ?_))
      · refine Eq.trans (rr_iinc (L' := [some (.inr (.inr l0)), some (.inl l1), some (.inl l2), some (.inl l3), some (.inl l4), some (.inl l5), some (.inl l6), some (.inl l7), some (.inl l8), some (.inl l9), some (.inl (am_w (l10 + 1))), some (.inl z1), some (.inl z2)]) rfl rfl rfl) ?_
        refine Eq.trans (rr_goto rfl rfl) ?_
        rfl
      · refine Eq.trans (rr_aload_n rfl rfl) ?_
        refine Eq.trans (rr_getfr rfl rfl rfl h5) ?_
        refine Eq.trans (rr_iload rfl rfl) ?_
        refine Eq.trans (rr_aload_n rfl rfl) ?_
        refine Eq.trans (rr_getfr rfl rfl rfl h5) ?_
        refine Eq.trans (rr_iload rfl rfl) ?_
        refine Eq.trans (rr_iaload rfl rfl h6) ?_
        refine Eq.trans (rr_iastore rfl h7) ?_
        refine Eq.trans (rr_iinc (L' := [some (.inr (.inr l0)), some (.inl l1), some (.inl l2), some (.inl l3), some (.inl l4), some (.inl l5), some (.inl l6), some (.inl l7), some (.inl l8), some (.inl l9), some (.inl (am_w (l10 + 1))), some (.inl z1), some (.inl z2)]) rfl rfl rfl) ?_
        refine Eq.trans (rr_goto rfl rfl) ?_
        rfl
theorem pX7_round_238 (l0 l1 l2 l3 l4 l5 l6 l7 l8 : Int) (o9 o10 o11 o12 : Option am_V) (ω : am_W) (h1 : am_is ω l0 (7, 30) = true) : am_run (211, 0) 238 ([some (.inr (.inr l0)), some (.inl l1), some (.inl l2), some (.inl l3), some (.inl l4), some (.inl l5), some (.inl l6), some (.inl l7), some (.inl l8), o9, o10, o11, o12], [], ω) = if am_arl ω (am_get ω l0.toNat 25) = true then (if (am_len ω (am_get ω l0.toNat 25)) ≤ l8 then (am_run (211, 0) 81 ([some (.inr (.inr l0)), some (.inl l1), some (.inl l2), some (.inl l3), some (.inl l4), some (.inl l5), some (.inl (am_w (l6 + 1))), some (.inl l7), some (.inl l8), o9, o10, o11, o12], [], ω)) else (if am_in ω (am_get ω l0.toNat 25) 100 (am_w (l8 + l4)) = true then (am_bi (am_run (237, 0) 0 ([some (.inl l5), some (.inl (am_get ω (am_get ω l0.toNat 25).toNat (am_w (l8 + l4)).toNat))], [], ω)) (fun z1 ω1 => am_run (211, 0) 238 ([some (.inr (.inr l0)), some (.inl l1), some (.inl l2), some (.inl l3), some (.inl l4), some (.inl z1), some (.inl l6), some (.inl l7), some (.inl (am_w (l8 + 8))), o9, o10, o11, o12], [], ω1))) else none)) else none := by
  refine Eq.trans (rr_iload rfl rfl) ?_
  refine Eq.trans (rr_aload_n rfl rfl) ?_
  refine Eq.trans (rr_getfr rfl rfl rfl h1) ?_
  refine ck_it (fun h => rr_arraylength rfl rfl h) (fun h => rr_arraylength_no rfl rfl h) (fun h2 => ?_)
  refine Eq.trans (rr_icmp_ge rfl rfl) (it_cg (fun _ => ?_) (fun _ => ?_))
  · refine Eq.trans (rr_iinc (L' := [some (.inr (.inr l0)), some (.inl l1), some (.inl l2), some (.inl l3), some (.inl l4), some (.inl l5), some (.inl (am_w (l6 + 1))), some (.inl l7), some (.inl l8), o9, o10, o11, o12]) rfl rfl rfl) ?_
    refine Eq.trans (rr_goto rfl rfl) ?_
    rfl
  · refine Eq.trans (rr_iload rfl rfl) ?_
    refine Eq.trans (rr_aload_n rfl rfl) ?_
    refine Eq.trans (rr_getfr rfl rfl rfl h1) ?_
    refine Eq.trans (rr_iload rfl rfl) ?_
    refine Eq.trans (rr_iload rfl rfl) ?_
    refine Eq.trans (rr_iadd rfl) ?_
    refine ck_it (fun h => rr_iaload rfl rfl h) (fun h => rr_iaload_no rfl rfl h) (fun h3 => ?_)
    refine Eq.trans (rr_invS2i (S' := []) (L' := [some (.inl l5), some (.inl (am_get ω (am_get ω l0.toNat 25).toNat (am_w (l8 + l4)).toNat))]) (m' := (237, 0)) rfl rfl rfl rfl rfl rfl) ?_
    refine bi_cg (fun z1 ω1 => ?_)
    refine Eq.trans (rr_istore (L' := [some (.inr (.inr l0)), some (.inl l1), some (.inl l2), some (.inl l3), some (.inl l4), some (.inl z1), some (.inl l6), some (.inl l7), some (.inl l8), o9, o10, o11, o12]) rfl rfl) ?_
    refine Eq.trans (rr_iinc (L' := [some (.inr (.inr l0)), some (.inl l1), some (.inl l2), some (.inl l3), some (.inl l4), some (.inl z1), some (.inl l6), some (.inl l7), some (.inl (am_w (l8 + 8))), o9, o10, o11, o12]) rfl rfl rfl) ?_
    refine Eq.trans (rr_goto rfl rfl) ?_
    rfl
theorem pX7_home_0 (l0 l1 l2 : Int) (ω : am_W) (h1 : am_is ω l0 (7, 30) = true) : am_run (212, 0) 0 ([some (.inr (.inr l0)), some (.inl l1), some (.inl l2), none, none, none], [], ω) = am_bi (am_run (151, 0) 0 ([some (.inr (.inr l0)), some (.inl l1)], [], ω)) (fun z1 ω1 => if z1 = 0 then (if am_is ω1 l0 (7, 30) = true then (am_bi (am_run (148, 0) 0 ([some (.inr (.inr l0)), some (.inl ((-2)))], [], ω1)) (fun z2 ω2 => some (some (.inl z2), ω2))) else none) else (am_bi (am_run (149, 0) 0 ([some (.inl l2), some (.inl 0), some (.inl 1)], [], ω1)) (fun z3 ω3 => if ¬ z3 = 0 then (if am_is ω3 l0 (7, 30) = true then (if am_in ω3 (am_get ω3 l0.toNat 8) 100 l1 = true then (if (am_get ω3 (am_get ω3 l0.toNat 8).toNat l1.toNat) ≤ 0 then (if am_in ω3 (am_get ω3 l0.toNat 11) 100 l1 = true then (am_run (212, 0) 72 ([some (.inr (.inr l0)), some (.inl l1), some (.inl l2), some (.inl 0), some (.inl (am_get ω3 (am_get ω3 l0.toNat 11).toNat l1.toNat)), some (.inl (am_get ω3 (am_get ω3 l0.toNat 8).toNat l1.toNat))], [], ω3)) else none) else (if am_in ω3 (am_get ω3 l0.toNat 7) 100 l1 = true then (am_bi (am_run (149, 0) 0 ([some (.inl (am_get ω3 (am_get ω3 l0.toNat 7).toNat l1.toNat)), some (.inl 2), some (.inl 4)], [], ω3)) (fun z4 ω4 => if z4 = 0 then (if am_is ω4 l0 (7, 30) = true then (if am_in ω4 (am_get ω4 l0.toNat 11) 100 l1 = true then (if am_in ω4 (am_get ω4 l0.toNat 8) 100 l1 = true then (am_run (212, 0) 72 ([some (.inr (.inr l0)), some (.inl l1), some (.inl l2), some (.inl 0), some (.inl (am_get ω4 (am_get ω4 l0.toNat 11).toNat l1.toNat)), some (.inl (am_get ω4 (am_get ω4 l0.toNat 8).toNat l1.toNat))], [], ω4)) else none) else none) else none) else (if am_is ω4 l0 (7, 30) = true then (am_bi (am_run (148, 0) 0 ([some (.inr (.inr l0)), some (.inl ((-5)))], [], ω4)) (fun z5 ω5 => some (some (.inl z5), ω5))) else none))) else none)) else none) else none) else (if am_is ω3 l0 (7, 30) = true then (am_bi (am_run (148, 0) 0 ([some (.inr (.inr l0)), some (.inl ((-2)))], [], ω3)) (fun z6 ω6 => some (some (.inl z6), ω6))) else none)))) := by
  refine Eq.trans (rr_aload_n rfl rfl) ?_
  refine Eq.trans (rr_iload_n rfl rfl) ?_
  refine Eq.trans (rr_invV0i (S' := []) (L' := [some (.inr (.inr l0)), some (.inl l1)]) (m' := (151, 0)) rfl rfl rfl rfl rfl rfl h1) ?_
  refine bi_cg (fun z1 ω1 => ?_)
  refine Eq.trans (rr_if_eq rfl rfl) (it_cg (fun _ => ?_) (fun _ => ?_))
  · refine Eq.trans (rr_aload_n rfl rfl) ?_
    refine Eq.trans (rr_bipush rfl rfl) ?_
    refine ck_it (fun h => rr_invV0i (S' := []) (L' := [some (.inr (.inr l0)), some (.inl ((-2)))]) (m' := (148, 0)) rfl rfl rfl rfl rfl rfl h) (fun h => rr_invV0_no (S' := []) (L' := [some (.inr (.inr l0)), some (.inl ((-2)))]) (m' := (148, 0)) rfl rfl rfl rfl rfl rfl h) (fun h2 => ?_)
    refine bi_cg (fun z2 ω2 => ?_)
    exact rr_ireturn rfl rfl
  · refine Eq.trans (rr_iload_n rfl rfl) ?_
    refine Eq.trans (rr_iconst rfl rfl) ?_
    refine Eq.trans (rr_iconst rfl rfl) ?_
    refine Eq.trans (rr_invS2i (S' := []) (L' := [some (.inl l2), some (.inl 0), some (.inl 1)]) (m' := (149, 0)) rfl rfl rfl rfl rfl rfl) ?_
    refine bi_cg (fun z3 ω3 => ?_)
    refine Eq.trans (rr_if_ne rfl rfl) (it_cg (fun _ => ?_) (fun _ => ?_))
    · refine Eq.trans (rr_aload_n rfl rfl) ?_
      refine ck_it (fun h => rr_getfr rfl rfl rfl h) (fun h => rr_getfield_no rfl rfl h) (fun h3 => ?_)
      refine Eq.trans (rr_iload_n rfl rfl) ?_
      refine ck_it (fun h => rr_iaload rfl rfl h) (fun h => rr_iaload_no rfl rfl h) (fun h4 => ?_)
      refine Eq.trans (rr_if_le rfl rfl) (it_cg (fun _ => ?_) (fun _ => ?_))
      · refine Eq.trans (rr_iconst rfl rfl) ?_
        refine Eq.trans (rr_istore_n (L' := [some (.inr (.inr l0)), some (.inl l1), some (.inl l2), some (.inl 0), none, none]) rfl rfl) ?_
        refine Eq.trans (rr_aload_n rfl rfl) ?_
        refine Eq.trans (rr_getfr rfl rfl rfl h3) ?_
        refine Eq.trans (rr_iload_n rfl rfl) ?_
        refine ck_it (fun h => rr_iaload rfl rfl h) (fun h => rr_iaload_no rfl rfl h) (fun h5 => ?_)
        refine Eq.trans (rr_istore (L' := [some (.inr (.inr l0)), some (.inl l1), some (.inl l2), some (.inl 0), some (.inl (am_get ω3 (am_get ω3 l0.toNat 11).toNat l1.toNat)), none]) rfl rfl) ?_
        refine Eq.trans (rr_aload_n rfl rfl) ?_
        refine Eq.trans (rr_getfr rfl rfl rfl h3) ?_
        refine Eq.trans (rr_iload_n rfl rfl) ?_
        refine Eq.trans (rr_iaload rfl rfl h4) ?_
        refine Eq.trans (rr_istore (L' := [some (.inr (.inr l0)), some (.inl l1), some (.inl l2), some (.inl 0), some (.inl (am_get ω3 (am_get ω3 l0.toNat 11).toNat l1.toNat)), some (.inl (am_get ω3 (am_get ω3 l0.toNat 8).toNat l1.toNat))]) rfl rfl) ?_
        rfl
      · refine Eq.trans (rr_aload_n rfl rfl) ?_
        refine Eq.trans (rr_getfr rfl rfl rfl h3) ?_
        refine Eq.trans (rr_iload_n rfl rfl) ?_
        refine ck_it (fun h => rr_iaload rfl rfl h) (fun h => rr_iaload_no rfl rfl h) (fun h6 => ?_)
        refine Eq.trans (rr_iconst rfl rfl) ?_
        refine Eq.trans (rr_iconst rfl rfl) ?_
        refine Eq.trans (rr_invS2i (S' := []) (L' := [some (.inl (am_get ω3 (am_get ω3 l0.toNat 7).toNat l1.toNat)), some (.inl 2), some (.inl 4)]) (m' := (149, 0)) rfl rfl rfl rfl rfl rfl) ?_
        refine bi_cg (fun z4 ω4 => ?_)
        refine Eq.trans (rr_if_eq rfl rfl) (it_cg (fun _ => ?_) (fun _ => ?_))
        · refine Eq.trans (rr_iconst rfl rfl) ?_
          refine Eq.trans (rr_istore_n (L' := [some (.inr (.inr l0)), some (.inl l1), some (.inl l2), some (.inl 0), none, none]) rfl rfl) ?_
          refine Eq.trans (rr_aload_n rfl rfl) ?_
          refine ck_it (fun h => rr_getfr rfl rfl rfl h) (fun h => rr_getfield_no rfl rfl h) (fun h7 => ?_)
          refine Eq.trans (rr_iload_n rfl rfl) ?_
          refine ck_it (fun h => rr_iaload rfl rfl h) (fun h => rr_iaload_no rfl rfl h) (fun h8 => ?_)
          refine Eq.trans (rr_istore (L' := [some (.inr (.inr l0)), some (.inl l1), some (.inl l2), some (.inl 0), some (.inl (am_get ω4 (am_get ω4 l0.toNat 11).toNat l1.toNat)), none]) rfl rfl) ?_
          refine Eq.trans (rr_aload_n rfl rfl) ?_
          refine Eq.trans (rr_getfr rfl rfl rfl h7) ?_
          refine Eq.trans (rr_iload_n rfl rfl) ?_
          refine ck_it (fun h => rr_iaload rfl rfl h) (fun h => rr_iaload_no rfl rfl h) (fun h9 => ?_)
          refine Eq.trans (rr_istore (L' := [some (.inr (.inr l0)), some (.inl l1), some (.inl l2), some (.inl 0), some (.inl (am_get ω4 (am_get ω4 l0.toNat 11).toNat l1.toNat)), some (.inl (am_get ω4 (am_get ω4 l0.toNat 8).toNat l1.toNat))]) rfl rfl) ?_
          rfl
        · refine Eq.trans (rr_aload_n rfl rfl) ?_
          refine Eq.trans (rr_bipush rfl rfl) ?_
          refine ck_it (fun h => rr_invV0i (S' := []) (L' := [some (.inr (.inr l0)), some (.inl ((-5)))]) (m' := (148, 0)) rfl rfl rfl rfl rfl rfl h) (fun h => rr_invV0_no (S' := []) (L' := [some (.inr (.inr l0)), some (.inl ((-5)))]) (m' := (148, 0)) rfl rfl rfl rfl rfl rfl h) (fun h10 => ?_)
          refine bi_cg (fun z5 ω5 => ?_)
          exact rr_ireturn rfl rfl
    · refine Eq.trans (rr_aload_n rfl rfl) ?_
      refine Eq.trans (rr_bipush rfl rfl) ?_
      refine ck_it (fun h => rr_invV0i (S' := []) (L' := [some (.inr (.inr l0)), some (.inl ((-2)))]) (m' := (148, 0)) rfl rfl rfl rfl rfl rfl h) (fun h => rr_invV0_no (S' := []) (L' := [some (.inr (.inr l0)), some (.inl ((-2)))]) (m' := (148, 0)) rfl rfl rfl rfl rfl rfl h) (fun h11 => ?_)
      refine bi_cg (fun z6 ω6 => ?_)
      exact rr_ireturn rfl rfl
theorem pX7_home_72 (l0 l1 l2 l3 l4 l5 : Int) (ω : am_W) (h1 : am_is ω l0 (7, 30) = true) : am_run (212, 0) 72 ([some (.inr (.inr l0)), some (.inl l1), some (.inl l2), some (.inl l3), some (.inl l4), some (.inl l5)], [], ω) = if l5 ≤ 0 then (if ¬ l2 = 0 then (some (some (.inl l4), ω)) else (some (some (.inl l3), ω))) else (am_bi (am_run (184, 0) 0 ([some (.inr (.inr l0)), some (.inl l1), some (.inl (am_w (l5 - 1)))], [], ω)) (fun z1 ω1 => if am_is ω1 l0 (7, 30) = true then (if am_in ω1 (am_get ω1 l0.toNat 4) 100 l5 = true then (am_bi (am_run (185, 0) 0 ([some (.inl (am_get ω1 (am_get ω1 l0.toNat 4).toNat l5.toNat))], [], ω1)) (fun z2 ω2 => am_run (212, 0) 72 ([some (.inr (.inr l0)), some (.inl l1), some (.inl l2), some (.inl (am_w (l3 + z1))), some (.inl (am_w (l4 + z2))), some (.inl (am_w (l5 + (-1))))], [], ω2))) else none) else none)) := by
  refine Eq.trans (rr_iload rfl rfl) ?_
  refine Eq.trans (rr_if_le rfl rfl) (it_cg (fun _ => ?_) (fun _ => ?_))
  · refine Eq.trans (rr_iload_n rfl rfl) ?_
    refine Eq.trans (rr_if_ne rfl rfl) (it_cg (fun _ => ?_) (fun _ => ?_))
    · refine Eq.trans (rr_iload rfl rfl) ?_
      exact rr_ireturn rfl rfl
    · refine Eq.trans (rr_iload_n rfl rfl) ?_
      refine Eq.trans (rr_goto rfl rfl) ?_
      exact rr_ireturn rfl rfl
  · refine Eq.trans (rr_iload_n rfl rfl) ?_
    refine Eq.trans (rr_aload_n rfl rfl) ?_
    refine Eq.trans (rr_iload_n rfl rfl) ?_
    refine Eq.trans (rr_iload rfl rfl) ?_
    refine Eq.trans (rr_iconst rfl rfl) ?_
    refine Eq.trans (rr_isub rfl) ?_
    refine Eq.trans (rr_invV0i (S' := [.inl l3]) (L' := [some (.inr (.inr l0)), some (.inl l1), some (.inl (am_w (l5 - 1)))]) (m' := (184, 0)) rfl rfl rfl rfl rfl rfl h1) ?_
    refine bi_cg (fun z1 ω1 => ?_)
    refine Eq.trans (rr_iadd rfl) ?_
    refine Eq.trans (rr_istore_n (L' := [some (.inr (.inr l0)), some (.inl l1), some (.inl l2), some (.inl (am_w (l3 + z1))), some (.inl l4), some (.inl l5)]) rfl rfl) ?_
    refine Eq.trans (rr_iload rfl rfl) ?_
    refine Eq.trans (rr_aload_n rfl rfl) ?_
    refine ck_it (fun h => rr_getfr rfl rfl rfl h) (fun h => rr_getfield_no rfl rfl h) (fun h2 => ?_)
    refine Eq.trans (rr_iload rfl rfl) ?_
    refine ck_it (fun h => rr_iaload rfl rfl h) (fun h => rr_iaload_no rfl rfl h) (fun h3 => ?_)
    refine Eq.trans (rr_invS2i (S' := [.inl l4]) (L' := [some (.inl (am_get ω1 (am_get ω1 l0.toNat 4).toNat l5.toNat))]) (m' := (185, 0)) rfl rfl rfl rfl rfl rfl) ?_
    refine bi_cg (fun z2 ω2 => ?_)
    refine Eq.trans (rr_iadd rfl) ?_
    refine Eq.trans (rr_istore (L' := [some (.inr (.inr l0)), some (.inl l1), some (.inl l2), some (.inl (am_w (l3 + z1))), some (.inl (am_w (l4 + z2))), some (.inl l5)]) rfl rfl) ?_
    refine Eq.trans (rr_iinc (L' := [some (.inr (.inr l0)), some (.inl l1), some (.inl l2), some (.inl (am_w (l3 + z1))), some (.inl (am_w (l4 + z2))), some (.inl (am_w (l5 + (-1))))]) rfl rfl rfl) ?_
    refine Eq.trans (rr_goto rfl rfl) ?_
    rfl
theorem pX7_again_0 (l0 : Int) (ω : am_W) (h1 : am_is ω l0 (7, 30) = true) : am_run (213, 0) 0 ([some (.inr (.inr l0)), none, none, none, none, none, none, none, none, none], [], ω) = if ¬ (am_get ω l0.toNat 6) = 0 then (am_run (213, 0) 15 ([some (.inr (.inr l0)), some (.inr (.inl 1)), none, some (.inl 0), none, none, none, none, none, none], [], ω)) else (some (some (.inr (.inl ((-1)))), ω)) := by
  refine Eq.trans (rr_aload_n rfl rfl) ?_
  refine Eq.trans (rr_getfi rfl rfl rfl h1) ?_
  refine Eq.trans (rr_if_ne rfl rfl) (it_cg (fun _ => ?_) (fun _ => ?_))
  · refine Eq.trans (rr_lconst rfl) ?_
    refine Eq.trans (rr_lstore_n (L' := [some (.inr (.inr l0)), some (.inr (.inl 1)), none, none, none, none, none, none, none, none]) rfl rfl) ?_
    refine Eq.trans (rr_iconst rfl rfl) ?_
    refine Eq.trans (rr_istore_n (L' := [some (.inr (.inr l0)), some (.inr (.inl 1)), none, some (.inl 0), none, none, none, none, none, none]) rfl rfl) ?_
    rfl
  · refine Eq.trans (rr_ldc2 rfl rfl) ?_
    exact rr_lreturn rfl rfl
theorem pX7_again_15 (l0 l1 l3 : Int) (o4 o6 o8 o5 o7 o9 : Option am_V) (ω : am_W) (h1 : am_is ω l0 (7, 30) = true) : am_run (213, 0) 15 ([some (.inr (.inr l0)), some (.inr (.inl l1)), none, some (.inl l3), o4, o5, o6, o7, o8, o9], [], ω) = if (am_get ω l0.toNat 6) ≤ l3 then (some (some (.inr (.inl l1)), ω)) else (if am_in ω (am_get ω l0.toNat 11) 100 l3 = true then (if (am_get ω (am_get ω l0.toNat 11).toNat l3.toNat) ≤ 0 then (if am_in ω (am_get ω l0.toNat 8) 100 l3 = true then (if am_in ω (am_get ω l0.toNat 4) 100 (am_get ω (am_get ω l0.toNat 8).toNat l3.toNat) = true then (am_run (213, 0) 53 ([some (.inr (.inr l0)), some (.inr (.inl l1)), none, some (.inl l3), some (.inr (.inl l1)), none, some (.inr (.inl (am_get ω (am_get ω l0.toNat 4).toNat (am_get ω (am_get ω l0.toNat 8).toNat l3.toNat).toNat))), none, o8, o9], [], ω)) else none) else none) else (some (some (.inr (.inl ((-1)))), ω))) else none) := by
  refine Eq.trans (rr_iload_n rfl rfl) ?_
  refine Eq.trans (rr_aload_n rfl rfl) ?_
  refine Eq.trans (rr_getfi rfl rfl rfl h1) ?_
  refine Eq.trans (rr_icmp_ge rfl rfl) (it_cg (fun _ => ?_) (fun _ => ?_))
  · refine Eq.trans (rr_lload_n rfl rfl) ?_
    exact rr_lreturn rfl rfl
  · refine Eq.trans (rr_aload_n rfl rfl) ?_
    refine Eq.trans (rr_getfr rfl rfl rfl h1) ?_
    refine Eq.trans (rr_iload_n rfl rfl) ?_
    refine ck_it (fun h => rr_iaload rfl rfl h) (fun h => rr_iaload_no rfl rfl h) (fun h2 => ?_)
    refine Eq.trans (rr_if_le rfl rfl) (it_cg (fun _ => ?_) (fun _ => ?_))
    · refine Eq.trans (rr_lload_n rfl rfl) ?_
      refine Eq.trans (rr_lstore (L' := [some (.inr (.inr l0)), some (.inr (.inl l1)), none, some (.inl l3), some (.inr (.inl l1)), none, o6, o7, o8, o9]) rfl rfl) ?_
      refine Eq.trans (rr_aload_n rfl rfl) ?_
      refine Eq.trans (rr_getfr rfl rfl rfl h1) ?_
      refine Eq.trans (rr_aload_n rfl rfl) ?_
      refine Eq.trans (rr_getfr rfl rfl rfl h1) ?_
      refine Eq.trans (rr_iload_n rfl rfl) ?_
      refine ck_it (fun h => rr_iaload rfl rfl h) (fun h => rr_iaload_no rfl rfl h) (fun h3 => ?_)
      refine ck_it (fun h => rr_iaload rfl rfl h) (fun h => rr_iaload_no rfl rfl h) (fun h4 => ?_)
      refine Eq.trans (rr_i2l rfl) ?_
      refine Eq.trans (rr_lstore (L' := [some (.inr (.inr l0)), some (.inr (.inl l1)), none, some (.inl l3), some (.inr (.inl l1)), none, some (.inr (.inl (am_get ω (am_get ω l0.toNat 4).toNat (am_get ω (am_get ω l0.toNat 8).toNat l3.toNat).toNat))), none, o8, o9]) rfl rfl) ?_
      rfl
    · refine Eq.trans (rr_ldc2 rfl rfl) ?_
      exact rr_lreturn rfl rfl
theorem pX7_again_53 (l0 l1 l3 l4 l6 : Int) (o8 o9 : Option am_V) (ω : am_W) (h1 : am_is ω l0 (7, 30) = true) : am_run (213, 0) 53 ([some (.inr (.inr l0)), some (.inr (.inl l1)), none, some (.inl l3), some (.inr (.inl l4)), none, some (.inr (.inl l6)), none, o8, o9], [], ω) = if (am_cmp l6 0) = 0 then (if l4 = 0 then none else (if am_in ω (am_get ω l0.toNat 8) 100 l3 = true then (if am_in ω (am_get ω l0.toNat 4) 100 (am_get ω (am_get ω l0.toNat 8).toNat l3.toNat) = true then (am_run (213, 0) 15 ([some (.inr (.inr l0)), some (.inr (.inl (am_wl ((am_wl (l1.tdiv l4)) * (am_get ω (am_get ω l0.toNat 4).toNat (am_get ω (am_get ω l0.toNat 8).toNat l3.toNat).toNat))))), none, some (.inl (am_w (l3 + 1))), some (.inr (.inl l4)), none, some (.inr (.inl l6)), none, o8, o9], [], ω)) else none) else none)) else (if l6 = 0 then none else (am_run (213, 0) 53 ([some (.inr (.inr l0)), some (.inr (.inl l1)), none, some (.inl l3), some (.inr (.inl l6)), none, some (.inr (.inl (l4.tmod l6))), none, some (.inr (.inl (l4.tmod l6))), none], [], ω))) := by
  refine Eq.trans (rr_lload rfl rfl) ?_
  refine Eq.trans (rr_lconst rfl) ?_
  refine Eq.trans (rr_lcmp rfl) ?_
  refine Eq.trans (rr_if_eq rfl rfl) (it_cg (fun _ => ?_) (fun _ => ?_))
  · refine Eq.trans (rr_lload_n rfl rfl) ?_
    refine Eq.trans (rr_lload rfl rfl) ?_
    refine Eq.trans (rr_ldiv rfl) (it_cg (fun _ => rfl) (fun _ => ?_))
    refine Eq.trans (rr_aload_n rfl rfl) ?_
    refine Eq.trans (rr_getfr rfl rfl rfl h1) ?_
    refine Eq.trans (rr_aload_n rfl rfl) ?_
    refine Eq.trans (rr_getfr rfl rfl rfl h1) ?_
    refine Eq.trans (rr_iload_n rfl rfl) ?_
    refine ck_it (fun h => rr_iaload rfl rfl h) (fun h => rr_iaload_no rfl rfl h) (fun h2 => ?_)
    refine ck_it (fun h => rr_iaload rfl rfl h) (fun h => rr_iaload_no rfl rfl h) (fun h3 => ?_)
    refine Eq.trans (rr_i2l rfl) ?_
    refine Eq.trans (rr_lmul rfl) ?_
    refine Eq.trans (rr_lstore_n (L' := [some (.inr (.inr l0)), some (.inr (.inl (am_wl ((am_wl (l1.tdiv l4)) * (am_get ω (am_get ω l0.toNat 4).toNat (am_get ω (am_get ω l0.toNat 8).toNat l3.toNat).toNat))))), none, some (.inl l3), some (.inr (.inl l4)), none, some (.inr (.inl l6)), none, o8, o9]) rfl rfl) ?_
    refine Eq.trans (rr_iinc (L' := [some (.inr (.inr l0)), some (.inr (.inl (am_wl ((am_wl (l1.tdiv l4)) * (am_get ω (am_get ω l0.toNat 4).toNat (am_get ω (am_get ω l0.toNat 8).toNat l3.toNat).toNat))))), none, some (.inl (am_w (l3 + 1))), some (.inr (.inl l4)), none, some (.inr (.inl l6)), none, o8, o9]) rfl rfl rfl) ?_
    refine Eq.trans (rr_goto rfl rfl) ?_
    rfl
  · refine Eq.trans (rr_lload rfl rfl) ?_
    refine Eq.trans (rr_lload rfl rfl) ?_
    refine Eq.trans (rr_lrem rfl) (it_cg (fun _ => rfl) (fun _ => ?_))
    refine Eq.trans (rr_lstore (L' := [some (.inr (.inr l0)), some (.inr (.inl l1)), none, some (.inl l3), some (.inr (.inl l4)), none, some (.inr (.inl l6)), none, some (.inr (.inl (l4.tmod l6))), none]) rfl rfl) ?_
    refine Eq.trans (rr_lload rfl rfl) ?_
    refine Eq.trans (rr_lstore (L' := [some (.inr (.inr l0)), some (.inr (.inl l1)), none, some (.inl l3), some (.inr (.inl l6)), none, some (.inr (.inl l6)), none, some (.inr (.inl (l4.tmod l6))), none]) rfl rfl) ?_
    refine Eq.trans (rr_lload rfl rfl) ?_
    refine Eq.trans (rr_lstore (L' := [some (.inr (.inr l0)), some (.inr (.inl l1)), none, some (.inl l3), some (.inr (.inl l6)), none, some (.inr (.inl (l4.tmod l6))), none, some (.inr (.inl (l4.tmod l6))), none]) rfl rfl) ?_
    refine Eq.trans (rr_goto rfl rfl) ?_
    rfl
theorem pX7_pass_0 (l0 l1 l2 : Int) (ω : am_W) (h1 : am_is ω l0 (7, 30) = true) : am_run (214, 0) 0 ([some (.inr (.inr l0)), some (.inl l1), some (.inl l2), none, none, none, none, none], [], ω) = am_bi (am_run (152, 0) 0 ([some (.inr (.inr l0)), some (.inl l1), some (.inl l2)], [], ω)) (fun z1 ω1 => if ¬ z1 = 0 then (if am_is ω1 l0 (7, 30) = true then (if am_in ω1 (am_get ω1 l0.toNat 8) 100 l1 = true then (if am_in ω1 (am_get ω1 l0.toNat 4) 100 (am_get ω1 (am_get ω1 l0.toNat 8).toNat l1.toNat) = true then (if am_in ω1 (am_get ω1 l0.toNat 8) 100 l2 = true then (if am_in ω1 (am_get ω1 l0.toNat 4) 100 (am_get ω1 (am_get ω1 l0.toNat 8).toNat l2.toNat) = true then (am_run (214, 0) 44 ([some (.inr (.inr l0)), some (.inl l1), some (.inl l2), some (.inl (am_get ω1 (am_get ω1 l0.toNat 4).toNat (am_get ω1 (am_get ω1 l0.toNat 8).toNat l1.toNat).toNat)), some (.inl (am_get ω1 (am_get ω1 l0.toNat 4).toNat (am_get ω1 (am_get ω1 l0.toNat 8).toNat l2.toNat).toNat)), some (.inl 0), none, none], [], ω1)) else none) else none) else none) else none) else none) else (if am_is ω1 l0 (7, 30) = true then (am_bi (am_run (148, 0) 0 ([some (.inr (.inr l0)), some (.inl ((-2)))], [], ω1)) (fun z2 ω2 => some (some (.inl z2), ω2))) else none)) := by
  refine Eq.trans (rr_aload_n rfl rfl) ?_
  refine Eq.trans (rr_iload_n rfl rfl) ?_
  refine Eq.trans (rr_iload_n rfl rfl) ?_
  refine Eq.trans (rr_invV0i (S' := []) (L' := [some (.inr (.inr l0)), some (.inl l1), some (.inl l2)]) (m' := (152, 0)) rfl rfl rfl rfl rfl rfl h1) ?_
  refine bi_cg (fun z1 ω1 => ?_)
  refine Eq.trans (rr_if_ne rfl rfl) (it_cg (fun _ => ?_) (fun _ => ?_))
  · refine Eq.trans (rr_aload_n rfl rfl) ?_
    refine ck_it (fun h => rr_getfr rfl rfl rfl h) (fun h => rr_getfield_no rfl rfl h) (fun h2 => ?_)
    refine Eq.trans (rr_aload_n rfl rfl) ?_
    refine Eq.trans (rr_getfr rfl rfl rfl h2) ?_
    refine Eq.trans (rr_iload_n rfl rfl) ?_
    refine ck_it (fun h => rr_iaload rfl rfl h) (fun h => rr_iaload_no rfl rfl h) (fun h3 => ?_)
    refine ck_it (fun h => rr_iaload rfl rfl h) (fun h => rr_iaload_no rfl rfl h) (fun h4 => ?_)
    refine Eq.trans (rr_istore_n (L' := [some (.inr (.inr l0)), some (.inl l1), some (.inl l2), some (.inl (am_get ω1 (am_get ω1 l0.toNat 4).toNat (am_get ω1 (am_get ω1 l0.toNat 8).toNat l1.toNat).toNat)), none, none, none, none]) rfl rfl) ?_
    refine Eq.trans (rr_aload_n rfl rfl) ?_
    refine Eq.trans (rr_getfr rfl rfl rfl h2) ?_
    refine Eq.trans (rr_aload_n rfl rfl) ?_
    refine Eq.trans (rr_getfr rfl rfl rfl h2) ?_
    refine Eq.trans (rr_iload_n rfl rfl) ?_
    refine ck_it (fun h => rr_iaload rfl rfl h) (fun h => rr_iaload_no rfl rfl h) (fun h5 => ?_)
    refine ck_it (fun h => rr_iaload rfl rfl h) (fun h => rr_iaload_no rfl rfl h) (fun h6 => ?_)
    refine Eq.trans (rr_istore (L' := [some (.inr (.inr l0)), some (.inl l1), some (.inl l2), some (.inl (am_get ω1 (am_get ω1 l0.toNat 4).toNat (am_get ω1 (am_get ω1 l0.toNat 8).toNat l1.toNat).toNat)), some (.inl (am_get ω1 (am_get ω1 l0.toNat 4).toNat (am_get ω1 (am_get ω1 l0.toNat 8).toNat l2.toNat).toNat)), none, none, none]) rfl rfl) ?_
    refine Eq.trans (rr_iconst rfl rfl) ?_
    refine Eq.trans (rr_istore (L' := [some (.inr (.inr l0)), some (.inl l1), some (.inl l2), some (.inl (am_get ω1 (am_get ω1 l0.toNat 4).toNat (am_get ω1 (am_get ω1 l0.toNat 8).toNat l1.toNat).toNat)), some (.inl (am_get ω1 (am_get ω1 l0.toNat 4).toNat (am_get ω1 (am_get ω1 l0.toNat 8).toNat l2.toNat).toNat)), some (.inl 0), none, none]) rfl rfl) ?_
    rfl
  · refine Eq.trans (rr_aload_n rfl rfl) ?_
    refine Eq.trans (rr_bipush rfl rfl) ?_
    refine ck_it (fun h => rr_invV0i (S' := []) (L' := [some (.inr (.inr l0)), some (.inl ((-2)))]) (m' := (148, 0)) rfl rfl rfl rfl rfl rfl h) (fun h => rr_invV0_no (S' := []) (L' := [some (.inr (.inr l0)), some (.inl ((-2)))]) (m' := (148, 0)) rfl rfl rfl rfl rfl rfl h) (fun h7 => ?_)
    refine bi_cg (fun z2 ω2 => ?_)
    exact rr_ireturn rfl rfl
theorem pX7_pass_44 (l0 l1 l2 l3 l4 l5 : Int) (o6 o7 : Option am_V) (ω : am_W) (h1 : am_is ω l0 (7, 30) = true) : am_run (214, 0) 44 ([some (.inr (.inr l0)), some (.inl l1), some (.inl l2), some (.inl l3), some (.inl l4), some (.inl l5), o6, o7], [], ω) = if (am_w (l3 * l4)) ≤ l5 then (some (some (.inl ((-1))), ω)) else (if am_in ω (am_get ω l0.toNat 9) 100 l1 = true then (if am_in ω (am_get ω l0.toNat 11) 100 l1 = true then (am_bi (am_run (236, 0) 0 ([some (.inl 0), some (.inl (am_w (l5 - (am_get ω (am_get ω l0.toNat 11).toNat l1.toNat))))], [], ω)) (fun z1 ω1 => if l3 = 0 then none else (if am_is ω1 l0 (7, 30) = true then (if am_in ω1 (am_get ω1 l0.toNat 9) 100 l2 = true then (if am_in ω1 (am_get ω1 l0.toNat 11) 100 l2 = true then (am_bi (am_run (236, 0) 0 ([some (.inl 0), some (.inl (am_w (l5 - (am_get ω1 (am_get ω1 l0.toNat 11).toNat l2.toNat))))], [], ω1)) (fun z2 ω2 => if l4 = 0 then none else (if ¬ (am_w (((am_w ((am_get ω (am_get ω l0.toNat 9).toNat l1.toNat) + z1)).tmod l3) * l4)) = (am_w (((am_w ((am_get ω1 (am_get ω1 l0.toNat 9).toNat l2.toNat) + z2)).tmod l4) * l3)) then (am_run (214, 0) 44 ([some (.inr (.inr l0)), some (.inl l1), some (.inl l2), some (.inl l3), some (.inl l4), some (.inl (am_w (l5 + 1))), some (.inl ((am_w ((am_get ω (am_get ω l0.toNat 9).toNat l1.toNat) + z1)).tmod l3)), some (.inl ((am_w ((am_get ω1 (am_get ω1 l0.toNat 9).toNat l2.toNat) + z2)).tmod l4))], [], ω2)) else (some (some (.inl l5), ω2))))) else none) else none) else none))) else none) else none) := by
  refine Eq.trans (rr_iload rfl rfl) ?_
  refine Eq.trans (rr_iload_n rfl rfl) ?_
  refine Eq.trans (rr_iload rfl rfl) ?_
  refine Eq.trans (rr_imul rfl) ?_
  refine Eq.trans (rr_icmp_ge rfl rfl) (it_cg (fun _ => ?_) (fun _ => ?_))
  · refine Eq.trans (rr_iconst rfl rfl) ?_
    exact rr_ireturn rfl rfl
  · refine Eq.trans (rr_aload_n rfl rfl) ?_
    refine Eq.trans (rr_getfr rfl rfl rfl h1) ?_
    refine Eq.trans (rr_iload_n rfl rfl) ?_
    refine ck_it (fun h => rr_iaload rfl rfl h) (fun h => rr_iaload_no rfl rfl h) (fun h2 => ?_)
    refine Eq.trans (rr_iconst rfl rfl) ?_
    refine Eq.trans (rr_iload rfl rfl) ?_
    refine Eq.trans (rr_aload_n rfl rfl) ?_
    refine Eq.trans (rr_getfr rfl rfl rfl h1) ?_
    refine Eq.trans (rr_iload_n rfl rfl) ?_
    refine ck_it (fun h => rr_iaload rfl rfl h) (fun h => rr_iaload_no rfl rfl h) (fun h3 => ?_)
    refine Eq.trans (rr_isub rfl) ?_
    refine Eq.trans (rr_invS2i (S' := [.inl (am_get ω (am_get ω l0.toNat 9).toNat l1.toNat)]) (L' := [some (.inl 0), some (.inl (am_w (l5 - (am_get ω (am_get ω l0.toNat 11).toNat l1.toNat))))]) (m' := (236, 0)) rfl rfl rfl rfl rfl rfl) ?_
    refine bi_cg (fun z1 ω1 => ?_)
    refine Eq.trans (rr_iadd rfl) ?_
    refine Eq.trans (rr_iload_n rfl rfl) ?_
    refine Eq.trans (rr_irem rfl) (it_cg (fun _ => rfl) (fun _ => ?_))
    refine Eq.trans (rr_istore (L' := [some (.inr (.inr l0)), some (.inl l1), some (.inl l2), some (.inl l3), some (.inl l4), some (.inl l5), some (.inl ((am_w ((am_get ω (am_get ω l0.toNat 9).toNat l1.toNat) + z1)).tmod l3)), o7]) rfl rfl) ?_
    refine Eq.trans (rr_aload_n rfl rfl) ?_
    refine ck_it (fun h => rr_getfr rfl rfl rfl h) (fun h => rr_getfield_no rfl rfl h) (fun h4 => ?_)
    refine Eq.trans (rr_iload_n rfl rfl) ?_
    refine ck_it (fun h => rr_iaload rfl rfl h) (fun h => rr_iaload_no rfl rfl h) (fun h5 => ?_)
    refine Eq.trans (rr_iconst rfl rfl) ?_
    refine Eq.trans (rr_iload rfl rfl) ?_
    refine Eq.trans (rr_aload_n rfl rfl) ?_
    refine Eq.trans (rr_getfr rfl rfl rfl h4) ?_
    refine Eq.trans (rr_iload_n rfl rfl) ?_
    refine ck_it (fun h => rr_iaload rfl rfl h) (fun h => rr_iaload_no rfl rfl h) (fun h6 => ?_)
    refine Eq.trans (rr_isub rfl) ?_
    refine Eq.trans (rr_invS2i (S' := [.inl (am_get ω1 (am_get ω1 l0.toNat 9).toNat l2.toNat)]) (L' := [some (.inl 0), some (.inl (am_w (l5 - (am_get ω1 (am_get ω1 l0.toNat 11).toNat l2.toNat))))]) (m' := (236, 0)) rfl rfl rfl rfl rfl rfl) ?_
    refine bi_cg (fun z2 ω2 => ?_)
    refine Eq.trans (rr_iadd rfl) ?_
    refine Eq.trans (rr_iload rfl rfl) ?_
    refine Eq.trans (rr_irem rfl) (it_cg (fun _ => rfl) (fun _ => ?_))
    refine Eq.trans (rr_istore (L' := [some (.inr (.inr l0)), some (.inl l1), some (.inl l2), some (.inl l3), some (.inl l4), some (.inl l5), some (.inl ((am_w ((am_get ω (am_get ω l0.toNat 9).toNat l1.toNat) + z1)).tmod l3)), some (.inl ((am_w ((am_get ω1 (am_get ω1 l0.toNat 9).toNat l2.toNat) + z2)).tmod l4))]) rfl rfl) ?_
    refine Eq.trans (rr_iload rfl rfl) ?_
    refine Eq.trans (rr_iload rfl rfl) ?_
    refine Eq.trans (rr_imul rfl) ?_
    refine Eq.trans (rr_iload rfl rfl) ?_
    refine Eq.trans (rr_iload_n rfl rfl) ?_
    refine Eq.trans (rr_imul rfl) ?_
    refine Eq.trans (rr_icmp_ne rfl rfl) (it_cg (fun _ => ?_) (fun _ => ?_))
    · refine Eq.trans (rr_iinc (L' := [some (.inr (.inr l0)), some (.inl l1), some (.inl l2), some (.inl l3), some (.inl l4), some (.inl (am_w (l5 + 1))), some (.inl ((am_w ((am_get ω (am_get ω l0.toNat 9).toNat l1.toNat) + z1)).tmod l3)), some (.inl ((am_w ((am_get ω1 (am_get ω1 l0.toNat 9).toNat l2.toNat) + z2)).tmod l4))]) rfl rfl rfl) ?_
      refine Eq.trans (rr_goto rfl rfl) ?_
      rfl
    · refine Eq.trans (rr_iload rfl rfl) ?_
      exact rr_ireturn rfl rfl
theorem pX7_queue_0 (l0 l1 l2 : Int) (ω : am_W) (h1 : am_is ω l0 (7, 30) = true) : am_run (215, 0) 0 ([some (.inr (.inr l0)), some (.inl l1), some (.inl l2), none, none, none], [], ω) = am_bi (am_run (151, 0) 0 ([some (.inr (.inr l0)), some (.inl l1)], [], ω)) (fun z1 ω1 => if z1 = 0 then (if am_is ω1 l0 (7, 30) = true then (am_bi (am_run (148, 0) 0 ([some (.inr (.inr l0)), some (.inl ((-2)))], [], ω1)) (fun z2 ω2 => some (some (.inl z2), ω2))) else none) else (am_bi (am_run (149, 0) 0 ([some (.inl l2), some (.inl 0), some (.inl 20)], [], ω1)) (fun z3 ω3 => if ¬ z3 = 0 then (if am_is ω3 l0 (7, 30) = true then (if am_in ω3 (am_get ω3 l0.toNat 7) 100 l1 = true then (if (am_get ω3 (am_get ω3 l0.toNat 7).toNat l1.toNat) = 4 then (am_run (215, 0) 47 ([some (.inr (.inr l0)), some (.inl l1), some (.inl l2), some (.inl 0), some (.inl 0), none], [], ω3)) else (am_bi (am_run (148, 0) 0 ([some (.inr (.inr l0)), some (.inl ((-5)))], [], ω3)) (fun z4 ω4 => some (some (.inl z4), ω4)))) else none) else none) else (if am_is ω3 l0 (7, 30) = true then (am_bi (am_run (148, 0) 0 ([some (.inr (.inr l0)), some (.inl ((-2)))], [], ω3)) (fun z5 ω5 => some (some (.inl z5), ω5))) else none)))) := by
  refine Eq.trans (rr_aload_n rfl rfl) ?_
  refine Eq.trans (rr_iload_n rfl rfl) ?_
  refine Eq.trans (rr_invV0i (S' := []) (L' := [some (.inr (.inr l0)), some (.inl l1)]) (m' := (151, 0)) rfl rfl rfl rfl rfl rfl h1) ?_
  refine bi_cg (fun z1 ω1 => ?_)
  refine Eq.trans (rr_if_eq rfl rfl) (it_cg (fun _ => ?_) (fun _ => ?_))
  · refine Eq.trans (rr_aload_n rfl rfl) ?_
    refine Eq.trans (rr_bipush rfl rfl) ?_
    refine ck_it (fun h => rr_invV0i (S' := []) (L' := [some (.inr (.inr l0)), some (.inl ((-2)))]) (m' := (148, 0)) rfl rfl rfl rfl rfl rfl h) (fun h => rr_invV0_no (S' := []) (L' := [some (.inr (.inr l0)), some (.inl ((-2)))]) (m' := (148, 0)) rfl rfl rfl rfl rfl rfl h) (fun h2 => ?_)
    refine bi_cg (fun z2 ω2 => ?_)
    exact rr_ireturn rfl rfl
  · refine Eq.trans (rr_iload_n rfl rfl) ?_
    refine Eq.trans (rr_iconst rfl rfl) ?_
    refine Eq.trans (rr_bipush rfl rfl) ?_
    refine Eq.trans (rr_invS2i (S' := []) (L' := [some (.inl l2), some (.inl 0), some (.inl 20)]) (m' := (149, 0)) rfl rfl rfl rfl rfl rfl) ?_
    refine bi_cg (fun z3 ω3 => ?_)
    refine Eq.trans (rr_if_ne rfl rfl) (it_cg (fun _ => ?_) (fun _ => ?_))
    · refine Eq.trans (rr_aload_n rfl rfl) ?_
      refine ck_it (fun h => rr_getfr rfl rfl rfl h) (fun h => rr_getfield_no rfl rfl h) (fun h3 => ?_)
      refine Eq.trans (rr_iload_n rfl rfl) ?_
      refine ck_it (fun h => rr_iaload rfl rfl h) (fun h => rr_iaload_no rfl rfl h) (fun h4 => ?_)
      refine Eq.trans (rr_iconst rfl rfl) ?_
      refine Eq.trans (rr_icmp_eq rfl rfl) (it_cg (fun _ => ?_) (fun _ => ?_))
      · refine Eq.trans (rr_iconst rfl rfl) ?_
        refine Eq.trans (rr_istore_n (L' := [some (.inr (.inr l0)), some (.inl l1), some (.inl l2), some (.inl 0), none, none]) rfl rfl) ?_
        refine Eq.trans (rr_iconst rfl rfl) ?_
        refine Eq.trans (rr_istore (L' := [some (.inr (.inr l0)), some (.inl l1), some (.inl l2), some (.inl 0), some (.inl 0), none]) rfl rfl) ?_
        rfl
      · refine Eq.trans (rr_aload_n rfl rfl) ?_
        refine Eq.trans (rr_bipush rfl rfl) ?_
        refine Eq.trans (rr_invV0i (S' := []) (L' := [some (.inr (.inr l0)), some (.inl ((-5)))]) (m' := (148, 0)) rfl rfl rfl rfl rfl rfl h3) ?_
        refine bi_cg (fun z4 ω4 => ?_)
        exact rr_ireturn rfl rfl
    · refine Eq.trans (rr_aload_n rfl rfl) ?_
      refine Eq.trans (rr_bipush rfl rfl) ?_
      refine ck_it (fun h => rr_invV0i (S' := []) (L' := [some (.inr (.inr l0)), some (.inl ((-2)))]) (m' := (148, 0)) rfl rfl rfl rfl rfl rfl h) (fun h => rr_invV0_no (S' := []) (L' := [some (.inr (.inr l0)), some (.inl ((-2)))]) (m' := (148, 0)) rfl rfl rfl rfl rfl rfl h) (fun h5 => ?_)
      refine bi_cg (fun z5 ω5 => ?_)
      exact rr_ireturn rfl rfl
theorem pX7_queue_47 (l0 l1 l2 l3 l4 : Int) (o5 : Option am_V) (ω : am_W) (h1 : am_is ω l0 (7, 30) = true) : am_run (215, 0) 47 ([some (.inr (.inr l0)), some (.inl l1), some (.inl l2), some (.inl l3), some (.inl l4), o5], [], ω) = if (am_get ω l0.toNat 6) ≤ l4 then (some (some (.inl l3), ω)) else (if l4 = l1 then (am_run (215, 0) 47 ([some (.inr (.inr l0)), some (.inl l1), some (.inl l2), some (.inl l3), some (.inl (am_w (l4 + 1))), o5], [], ω)) else (if am_in ω (am_get ω l0.toNat 11) 100 l4 = true then (if 0 < (am_get ω (am_get ω l0.toNat 11).toNat l4.toNat) then (am_run (215, 0) 47 ([some (.inr (.inr l0)), some (.inl l1), some (.inl l2), some (.inl l3), some (.inl (am_w (l4 + 1))), o5], [], ω)) else (if am_in ω (am_get ω l0.toNat 8) 100 l4 = true then (if am_in ω (am_get ω l0.toNat 8) 100 l1 = true then (if (am_get ω (am_get ω l0.toNat 8).toNat l4.toNat) = (am_get ω (am_get ω l0.toNat 8).toNat l1.toNat) then (if am_in ω (am_get ω l0.toNat 9) 100 l4 = true then (if am_in ω (am_get ω l0.toNat 9) 100 l1 = true then (am_bi (am_run (235, 0) 0 ([some (.inl (am_w ((am_get ω (am_get ω l0.toNat 9).toNat l4.toNat) - (am_get ω (am_get ω l0.toNat 9).toNat l1.toNat))))], [], ω)) (fun z1 ω1 => if am_is ω1 l0 (7, 30) = true then (if am_in ω1 (am_get ω1 l0.toNat 8) 100 l1 = true then (if am_in ω1 (am_get ω1 l0.toNat 4) 100 (am_get ω1 (am_get ω1 l0.toNat 8).toNat l1.toNat) = true then (am_bi (am_run (237, 0) 0 ([some (.inl z1), some (.inl (am_w ((am_get ω1 (am_get ω1 l0.toNat 4).toNat (am_get ω1 (am_get ω1 l0.toNat 8).toNat l1.toNat).toNat) - z1)))], [], ω1)) (fun z2 ω2 => if l2 ≤ z2 then (am_run (215, 0) 47 ([some (.inr (.inr l0)), some (.inl l1), some (.inl l2), some (.inl l3), some (.inl (am_w (l4 + 1))), some (.inl z1)], [], ω2)) else (am_run (215, 0) 47 ([some (.inr (.inr l0)), some (.inl l1), some (.inl l2), some (.inl (am_or l3 (am_shl 1 l4))), some (.inl (am_w (l4 + 1))), some (.inl z1)], [], ω2)))) else none) else none) else none)) else none) else none) else (am_run (215, 0) 47 ([some (.inr (.inr l0)), some (.inl l1), some (.inl l2), some (.inl l3), some (.inl (am_w (l4 + 1))), o5], [], ω))) else none) else none)) else none)) := by
  refine Eq.trans (rr_iload rfl rfl) ?_
  refine Eq.trans (rr_aload_n rfl rfl) ?_
  refine Eq.trans (rr_getfi rfl rfl rfl h1) ?_
  refine Eq.trans (rr_icmp_ge rfl rfl) (it_cg (fun _ => ?_) (fun _ => ?_))
  · refine Eq.trans (rr_iload_n rfl rfl) ?_
    exact rr_ireturn rfl rfl
  · refine Eq.trans (rr_iload rfl rfl) ?_
    refine Eq.trans (rr_iload_n rfl rfl) ?_
    refine Eq.trans (rr_icmp_eq rfl rfl) (it_cg (fun _ => ?_) (fun _ => ?_))
    · refine Eq.trans (rr_iinc (L' := [some (.inr (.inr l0)), some (.inl l1), some (.inl l2), some (.inl l3), some (.inl (am_w (l4 + 1))), o5]) rfl rfl rfl) ?_
      refine Eq.trans (rr_goto rfl rfl) ?_
      rfl
    · refine Eq.trans (rr_aload_n rfl rfl) ?_
      refine Eq.trans (rr_getfr rfl rfl rfl h1) ?_
      refine Eq.trans (rr_iload rfl rfl) ?_
      refine ck_it (fun h => rr_iaload rfl rfl h) (fun h => rr_iaload_no rfl rfl h) (fun h2 => ?_)
      refine Eq.trans (rr_if_gt rfl rfl) (it_cg (fun _ => ?_) (fun _ => ?_))
      · refine Eq.trans (rr_iinc (L' := [some (.inr (.inr l0)), some (.inl l1), some (.inl l2), some (.inl l3), some (.inl (am_w (l4 + 1))), o5]) rfl rfl rfl) ?_
        refine Eq.trans (rr_goto rfl rfl) ?_
        rfl
      · refine Eq.trans (rr_aload_n rfl rfl) ?_
        refine Eq.trans (rr_getfr rfl rfl rfl h1) ?_
        refine Eq.trans (rr_iload rfl rfl) ?_
        refine ck_it (fun h => rr_iaload rfl rfl h) (fun h => rr_iaload_no rfl rfl h) (fun h3 => ?_)
        refine Eq.trans (rr_aload_n rfl rfl) ?_
        refine Eq.trans (rr_getfr rfl rfl rfl h1) ?_
        refine Eq.trans (rr_iload_n rfl rfl) ?_
        refine ck_it (fun h => rr_iaload rfl rfl h) (fun h => rr_iaload_no rfl rfl h) (fun h4 => ?_)
        refine Eq.trans (rr_icmp_eq rfl rfl) (it_cg (fun _ => ?_) (fun _ => ?_))
        · refine Eq.trans (rr_aload_n rfl rfl) ?_
          refine Eq.trans (rr_getfr rfl rfl rfl h1) ?_
          refine Eq.trans (rr_iload rfl rfl) ?_
          refine ck_it (fun h => rr_iaload rfl rfl h) (fun h => rr_iaload_no rfl rfl h) (fun h5 => ?_)
          refine Eq.trans (rr_aload_n rfl rfl) ?_
          refine Eq.trans (rr_getfr rfl rfl rfl h1) ?_
          refine Eq.trans (rr_iload_n rfl rfl) ?_
          refine ck_it (fun h => rr_iaload rfl rfl h) (fun h => rr_iaload_no rfl rfl h) (fun h6 => ?_)
          refine Eq.trans (rr_isub rfl) ?_
          refine Eq.trans (rr_invS2i (S' := []) (L' := [some (.inl (am_w ((am_get ω (am_get ω l0.toNat 9).toNat l4.toNat) - (am_get ω (am_get ω l0.toNat 9).toNat l1.toNat))))]) (m' := (235, 0)) rfl rfl rfl rfl rfl rfl) ?_
          refine bi_cg (fun z1 ω1 => ?_)
          refine Eq.trans (rr_istore (L' := [some (.inr (.inr l0)), some (.inl l1), some (.inl l2), some (.inl l3), some (.inl l4), some (.inl z1)]) rfl rfl) ?_
          refine Eq.trans (rr_iload rfl rfl) ?_
          refine Eq.trans (rr_aload_n rfl rfl) ?_
          refine ck_it (fun h => rr_getfr rfl rfl rfl h) (fun h => rr_getfield_no rfl rfl h) (fun h7 => ?_)
          refine Eq.trans (rr_aload_n rfl rfl) ?_
          refine Eq.trans (rr_getfr rfl rfl rfl h7) ?_
          refine Eq.trans (rr_iload_n rfl rfl) ?_
          refine ck_it (fun h => rr_iaload rfl rfl h) (fun h => rr_iaload_no rfl rfl h) (fun h8 => ?_)
          refine ck_it (fun h => rr_iaload rfl rfl h) (fun h => rr_iaload_no rfl rfl h) (fun h9 => ?_)
          refine Eq.trans (rr_iload rfl rfl) ?_
          refine Eq.trans (rr_isub rfl) ?_
          refine Eq.trans (rr_invS2i (S' := []) (L' := [some (.inl z1), some (.inl (am_w ((am_get ω1 (am_get ω1 l0.toNat 4).toNat (am_get ω1 (am_get ω1 l0.toNat 8).toNat l1.toNat).toNat) - z1)))]) (m' := (237, 0)) rfl rfl rfl rfl rfl rfl) ?_
          refine bi_cg (fun z2 ω2 => ?_)
          refine Eq.trans (rr_iload_n rfl rfl) ?_
          refine Eq.trans (rr_icmp_ge rfl rfl) (it_cg (fun _ => ?_) (fun _ => ?_))
          · refine Eq.trans (rr_iinc (L' := [some (.inr (.inr l0)), some (.inl l1), some (.inl l2), some (.inl l3), some (.inl (am_w (l4 + 1))), some (.inl z1)]) rfl rfl rfl) ?_
            refine Eq.trans (rr_goto rfl rfl) ?_
            rfl
          · refine Eq.trans (rr_iload_n rfl rfl) ?_
            refine Eq.trans (rr_iconst rfl rfl) ?_
            refine Eq.trans (rr_iload rfl rfl) ?_
            refine Eq.trans (rr_ishl rfl) ?_
            refine Eq.trans (rr_ior rfl) ?_
            refine Eq.trans (rr_istore_n (L' := [some (.inr (.inr l0)), some (.inl l1), some (.inl l2), some (.inl (am_or l3 (am_shl 1 l4))), some (.inl l4), some (.inl z1)]) rfl rfl) ?_
            refine Eq.trans (rr_iinc (L' := [some (.inr (.inr l0)), some (.inl l1), some (.inl l2), some (.inl (am_or l3 (am_shl 1 l4))), some (.inl (am_w (l4 + 1))), some (.inl z1)]) rfl rfl rfl) ?_
            refine Eq.trans (rr_goto rfl rfl) ?_
            rfl
        · refine Eq.trans (rr_goto rfl rfl) ?_
          refine Eq.trans (rr_iinc (L' := [some (.inr (.inr l0)), some (.inl l1), some (.inl l2), some (.inl l3), some (.inl (am_w (l4 + 1))), o5]) rfl rfl rfl) ?_
          refine Eq.trans (rr_goto rfl rfl) ?_
          rfl
theorem pX7_fullest_0 (l0 : Int) (ω : am_W) : am_run (216, 0) 0 ([some (.inr (.inr l0)), none, none], [], ω) = am_run (216, 0) 4 ([some (.inr (.inr l0)), some (.inl 0), some (.inl 1)], [], ω) := by
  refine Eq.trans (rr_iconst rfl rfl) ?_
  refine Eq.trans (rr_istore_n (L' := [some (.inr (.inr l0)), some (.inl 0), none]) rfl rfl) ?_
  refine Eq.trans (rr_iconst rfl rfl) ?_
  refine Eq.trans (rr_istore_n (L' := [some (.inr (.inr l0)), some (.inl 0), some (.inl 1)]) rfl rfl) ?_
  rfl
theorem pX7_fullest_4 (l0 l1 l2 : Int) (ω : am_W) (h1 : am_is ω l0 (7, 30) = true) : am_run (216, 0) 4 ([some (.inr (.inr l0)), some (.inl l1), some (.inl l2)], [], ω) = if (am_get ω l0.toNat 3) ≤ l2 then (some (some (.inl l1), ω)) else (am_bi (am_run (164, 0) 0 ([some (.inr (.inr l0)), some (.inl l2), none, none], [], ω)) (fun z1 ω1 => am_bi (am_run (234, 0) 0 ([some (.inl z1)], [], ω1)) (fun z2 ω2 => if am_is ω2 l0 (7, 30) = true then (am_bi (am_run (164, 0) 0 ([some (.inr (.inr l0)), some (.inl l1), none, none], [], ω2)) (fun z3 ω3 => am_bi (am_run (234, 0) 0 ([some (.inl z3)], [], ω3)) (fun z4 ω4 => if z2 ≤ z4 then (am_run (216, 0) 4 ([some (.inr (.inr l0)), some (.inl l1), some (.inl (am_w (l2 + 1)))], [], ω4)) else (am_run (216, 0) 4 ([some (.inr (.inr l0)), some (.inl l2), some (.inl (am_w (l2 + 1)))], [], ω4))))) else none))) := by
  refine Eq.trans (rr_iload_n rfl rfl) ?_
  refine Eq.trans (rr_aload_n rfl rfl) ?_
  refine Eq.trans (rr_getfi rfl rfl rfl h1) ?_
  refine Eq.trans (rr_icmp_ge rfl rfl) (it_cg (fun _ => ?_) (fun _ => ?_))
  · refine Eq.trans (rr_iload_n rfl rfl) ?_
    exact rr_ireturn rfl rfl
  · refine Eq.trans (rr_aload_n rfl rfl) ?_
    refine Eq.trans (rr_iload_n rfl rfl) ?_
    refine Eq.trans (rr_invV0i (S' := []) (L' := [some (.inr (.inr l0)), some (.inl l2), none, none]) (m' := (164, 0)) rfl rfl rfl rfl rfl rfl h1) ?_
    refine bi_cg (fun z1 ω1 => ?_)
    refine Eq.trans (rr_invS2i (S' := []) (L' := [some (.inl z1)]) (m' := (234, 0)) rfl rfl rfl rfl rfl rfl) ?_
    refine bi_cg (fun z2 ω2 => ?_)
    refine Eq.trans (rr_aload_n rfl rfl) ?_
    refine Eq.trans (rr_iload_n rfl rfl) ?_
    refine ck_it (fun h => rr_invV0i (S' := [.inl z2]) (L' := [some (.inr (.inr l0)), some (.inl l1), none, none]) (m' := (164, 0)) rfl rfl rfl rfl rfl rfl h) (fun h => rr_invV0_no (S' := [.inl z2]) (L' := [some (.inr (.inr l0)), some (.inl l1), none, none]) (m' := (164, 0)) rfl rfl rfl rfl rfl rfl h) (fun h2 => ?_)
    refine bi_cg (fun z3 ω3 => ?_)
    refine Eq.trans (rr_invS2i (S' := [.inl z2]) (L' := [some (.inl z3)]) (m' := (234, 0)) rfl rfl rfl rfl rfl rfl) ?_
    refine bi_cg (fun z4 ω4 => ?_)
    refine Eq.trans (rr_icmp_le rfl rfl) (it_cg (fun _ => ?_) (fun _ => ?_))
    · refine Eq.trans (rr_iinc (L' := [some (.inr (.inr l0)), some (.inl l1), some (.inl (am_w (l2 + 1)))]) rfl rfl rfl) ?_
      refine Eq.trans (rr_goto rfl rfl) ?_
      rfl
    · refine Eq.trans (rr_iload_n rfl rfl) ?_
      refine Eq.trans (rr_istore_n (L' := [some (.inr (.inr l0)), some (.inl l2), some (.inl l2)]) rfl rfl) ?_
      refine Eq.trans (rr_iinc (L' := [some (.inr (.inr l0)), some (.inl l2), some (.inl (am_w (l2 + 1)))]) rfl rfl rfl) ?_
      refine Eq.trans (rr_goto rfl rfl) ?_
      rfl
theorem pX7_clash_0 (l0 l1 : Int) (ω : am_W) : am_run (217, 0) 0 ([some (.inr (.inr l0)), some (.inl l1), none, none, none], [], ω) = am_bi (am_run (149, 0) 0 ([some (.inl l1), some (.inl 0), some (.inl 60)], [], ω)) (fun z1 ω1 => if ¬ z1 = 0 then (am_run (217, 0) 19 ([some (.inr (.inr l0)), some (.inl l1), some (.inl 0), none, none], [], ω1)) else (if am_is ω1 l0 (7, 30) = true then (am_bi (am_run (148, 0) 0 ([some (.inr (.inr l0)), some (.inl ((-2)))], [], ω1)) (fun z2 ω2 => some (some (.inl z2), ω2))) else none)) := by
  refine Eq.trans (rr_iload_n rfl rfl) ?_
  refine Eq.trans (rr_iconst rfl rfl) ?_
  refine Eq.trans (rr_bipush rfl rfl) ?_
  refine Eq.trans (rr_invS2i (S' := []) (L' := [some (.inl l1), some (.inl 0), some (.inl 60)]) (m' := (149, 0)) rfl rfl rfl rfl rfl rfl) ?_
  refine bi_cg (fun z1 ω1 => ?_)
  refine Eq.trans (rr_if_ne rfl rfl) (it_cg (fun _ => ?_) (fun _ => ?_))
  · refine Eq.trans (rr_iconst rfl rfl) ?_
    refine Eq.trans (rr_istore_n (L' := [some (.inr (.inr l0)), some (.inl l1), some (.inl 0), none, none]) rfl rfl) ?_
    rfl
  · refine Eq.trans (rr_aload_n rfl rfl) ?_
    refine Eq.trans (rr_bipush rfl rfl) ?_
    refine ck_it (fun h => rr_invV0i (S' := []) (L' := [some (.inr (.inr l0)), some (.inl ((-2)))]) (m' := (148, 0)) rfl rfl rfl rfl rfl rfl h) (fun h => rr_invV0_no (S' := []) (L' := [some (.inr (.inr l0)), some (.inl ((-2)))]) (m' := (148, 0)) rfl rfl rfl rfl rfl rfl h) (fun h1 => ?_)
    refine bi_cg (fun z2 ω2 => ?_)
    exact rr_ireturn rfl rfl
theorem pX7_clash_19 (l0 l1 l2 : Int) (o3 o4 : Option am_V) (ω : am_W) : am_run (217, 0) 19 ([some (.inr (.inr l0)), some (.inl l1), some (.inl l2), o3, o4], [], ω) = if l1 < l2 then (some (some (.inl ((-1))), ω)) else (am_run (217, 0) 26 ([some (.inr (.inr l0)), some (.inl l1), some (.inl l2), some (.inl 0), o4], [], ω)) := by
  refine Eq.trans (rr_iload_n rfl rfl) ?_
  refine Eq.trans (rr_iload_n rfl rfl) ?_
  refine Eq.trans (rr_icmp_gt rfl rfl) (it_cg (fun _ => ?_) (fun _ => ?_))
  · refine Eq.trans (rr_iconst rfl rfl) ?_
    exact rr_ireturn rfl rfl
  · refine Eq.trans (rr_iconst rfl rfl) ?_
    refine Eq.trans (rr_istore_n (L' := [some (.inr (.inr l0)), some (.inl l1), some (.inl l2), some (.inl 0), o4]) rfl rfl) ?_
    rfl
theorem pX7_clash_26 (l0 l1 l2 l3 : Int) (o4 : Option am_V) (ω : am_W) (h1 : am_is ω l0 (7, 30) = true) : am_run (217, 0) 26 ([some (.inr (.inr l0)), some (.inl l1), some (.inl l2), some (.inl l3), o4], [], ω) = if (am_get ω l0.toNat 6) ≤ l3 then (am_run (217, 0) 19 ([some (.inr (.inr l0)), some (.inl l1), some (.inl (am_w (l2 + 1))), some (.inl l3), o4], [], ω)) else (am_run (217, 0) 37 ([some (.inr (.inr l0)), some (.inl l1), some (.inl l2), some (.inl l3), some (.inl 0)], [], ω)) := by
  refine Eq.trans (rr_iload_n rfl rfl) ?_
  refine Eq.trans (rr_aload_n rfl rfl) ?_
  refine Eq.trans (rr_getfi rfl rfl rfl h1) ?_
  refine Eq.trans (rr_icmp_ge rfl rfl) (it_cg (fun _ => ?_) (fun _ => ?_))
  · refine Eq.trans (rr_iinc (L' := [some (.inr (.inr l0)), some (.inl l1), some (.inl (am_w (l2 + 1))), some (.inl l3), o4]) rfl rfl rfl) ?_
    refine Eq.trans (rr_goto rfl rfl) ?_
    rfl
  · refine Eq.trans (rr_iconst rfl rfl) ?_
    refine Eq.trans (rr_istore (L' := [some (.inr (.inr l0)), some (.inl l1), some (.inl l2), some (.inl l3), some (.inl 0)]) rfl rfl) ?_
    rfl
theorem pX7_clash_37 (l0 l1 l2 l3 l4 : Int) (ω : am_W) (h1 : am_is ω l0 (7, 30) = true) : am_run (217, 0) 37 ([some (.inr (.inr l0)), some (.inl l1), some (.inl l2), some (.inl l3), some (.inl l4)], [], ω) = if l3 ≤ l4 then (am_run (217, 0) 26 ([some (.inr (.inr l0)), some (.inl l1), some (.inl l2), some (.inl (am_w (l3 + 1))), some (.inl l4)], [], ω)) else (if am_in ω (am_get ω l0.toNat 8) 100 l3 = true then (if am_in ω (am_get ω l0.toNat 8) 100 l4 = true then (if ¬ (am_get ω (am_get ω l0.toNat 8).toNat l3.toNat) = (am_get ω (am_get ω l0.toNat 8).toNat l4.toNat) then (am_run (217, 0) 37 ([some (.inr (.inr l0)), some (.inl l1), some (.inl l2), some (.inl l3), some (.inl (am_w (l4 + 1)))], [], ω)) else (am_bi (am_run (204, 0) 0 ([some (.inr (.inr l0)), some (.inl l3), some (.inl l2)], [], ω)) (fun z1 ω1 => if z1 = ((-1)) then (am_run (217, 0) 37 ([some (.inr (.inr l0)), some (.inl l1), some (.inl l2), some (.inl l3), some (.inl (am_w (l4 + 1)))], [], ω1)) else (if am_is ω1 l0 (7, 30) = true then (am_bi (am_run (204, 0) 0 ([some (.inr (.inr l0)), some (.inl l3), some (.inl l2)], [], ω1)) (fun z2 ω2 => if am_is ω2 l0 (7, 30) = true then (am_bi (am_run (204, 0) 0 ([some (.inr (.inr l0)), some (.inl l4), some (.inl l2)], [], ω2)) (fun z3 ω3 => if ¬ z2 = z3 then (am_run (217, 0) 37 ([some (.inr (.inr l0)), some (.inl l1), some (.inl l2), some (.inl l3), some (.inl (am_w (l4 + 1)))], [], ω3)) else (some (some (.inl l2), ω3)))) else none)) else none)))) else none) else none) := by
  refine Eq.trans (rr_iload rfl rfl) ?_
  refine Eq.trans (rr_iload_n rfl rfl) ?_
  refine Eq.trans (rr_icmp_ge rfl rfl) (it_cg (fun _ => ?_) (fun _ => ?_))
  · refine Eq.trans (rr_iinc (L' := [some (.inr (.inr l0)), some (.inl l1), some (.inl l2), some (.inl (am_w (l3 + 1))), some (.inl l4)]) rfl rfl rfl) ?_
    refine Eq.trans (rr_goto rfl rfl) ?_
    rfl
  · refine Eq.trans (rr_aload_n rfl rfl) ?_
    refine Eq.trans (rr_getfr rfl rfl rfl h1) ?_
    refine Eq.trans (rr_iload_n rfl rfl) ?_
    refine ck_it (fun h => rr_iaload rfl rfl h) (fun h => rr_iaload_no rfl rfl h) (fun h2 => ?_)
    refine Eq.trans (rr_aload_n rfl rfl) ?_
    refine Eq.trans (rr_getfr rfl rfl rfl h1) ?_
    refine Eq.trans (rr_iload rfl rfl) ?_
    refine ck_it (fun h => rr_iaload rfl rfl h) (fun h => rr_iaload_no rfl rfl h) (fun h3 => ?_)
    refine Eq.trans (rr_icmp_ne rfl rfl) (it_cg (fun _ => ?_) (fun _ => ?_))
    · refine Eq.trans (rr_iinc (L' := [some (.inr (.inr l0)), some (.inl l1), some (.inl l2), some (.inl l3), some (.inl (am_w (l4 + 1)))]) rfl rfl rfl) ?_
      refine Eq.trans (rr_goto rfl rfl) ?_
      rfl
    · refine Eq.trans (rr_aload_n rfl rfl) ?_
      refine Eq.trans (rr_iload_n rfl rfl) ?_
      refine Eq.trans (rr_iload_n rfl rfl) ?_
      refine Eq.trans (rr_invV0i (S' := []) (L' := [some (.inr (.inr l0)), some (.inl l3), some (.inl l2)]) (m' := (204, 0)) rfl rfl rfl rfl rfl rfl h1) ?_
      refine bi_cg (fun z1 ω1 => ?_)
      refine Eq.trans (rr_iconst rfl rfl) ?_
      refine Eq.trans (rr_icmp_eq rfl rfl) (it_cg (fun _ => ?_) (fun _ => ?_))
      · refine Eq.trans (rr_iinc (L' := [some (.inr (.inr l0)), some (.inl l1), some (.inl l2), some (.inl l3), some (.inl (am_w (l4 + 1)))]) rfl rfl rfl) ?_
        refine Eq.trans (rr_goto rfl rfl) ?_
        rfl
      · refine Eq.trans (rr_aload_n rfl rfl) ?_
        refine Eq.trans (rr_iload_n rfl rfl) ?_
        refine Eq.trans (rr_iload_n rfl rfl) ?_
        refine ck_it (fun h => rr_invV0i (S' := []) (L' := [some (.inr (.inr l0)), some (.inl l3), some (.inl l2)]) (m' := (204, 0)) rfl rfl rfl rfl rfl rfl h) (fun h => rr_invV0_no (S' := []) (L' := [some (.inr (.inr l0)), some (.inl l3), some (.inl l2)]) (m' := (204, 0)) rfl rfl rfl rfl rfl rfl h) (fun h4 => ?_)
        refine bi_cg (fun z2 ω2 => ?_)
        refine Eq.trans (rr_aload_n rfl rfl) ?_
        refine Eq.trans (rr_iload rfl rfl) ?_
        refine Eq.trans (rr_iload_n rfl rfl) ?_
        refine ck_it (fun h => rr_invV0i (S' := [.inl z2]) (L' := [some (.inr (.inr l0)), some (.inl l4), some (.inl l2)]) (m' := (204, 0)) rfl rfl rfl rfl rfl rfl h) (fun h => rr_invV0_no (S' := [.inl z2]) (L' := [some (.inr (.inr l0)), some (.inl l4), some (.inl l2)]) (m' := (204, 0)) rfl rfl rfl rfl rfl rfl h) (fun h5 => ?_)
        refine bi_cg (fun z3 ω3 => ?_)
        refine Eq.trans (rr_icmp_ne rfl rfl) (it_cg (fun _ => ?_) (fun _ => ?_))
        · refine Eq.trans (rr_iinc (L' := [some (.inr (.inr l0)), some (.inl l1), some (.inl l2), some (.inl l3), some (.inl (am_w (l4 + 1)))]) rfl rfl rfl) ?_
          refine Eq.trans (rr_goto rfl rfl) ?_
          rfl
        · refine Eq.trans (rr_iload_n rfl rfl) ?_
          exact rr_ireturn rfl rfl
theorem pX7_burnt_0 (l0 l1 l2 l3 : Int) (ω : am_W) : am_run (218, 0) 0 ([some (.inr (.inr l0)), some (.inl l1), some (.inl l2), some (.inl l3), none, none, none, none, none, none, none, none], [], ω) = am_bi (am_run (149, 0) 0 ([some (.inl l1), some (.inl 0), some (.inl 7)], [], ω)) (fun z1 ω1 => if z1 = 0 then (if am_is ω1 l0 (7, 30) = true then (am_bi (am_run (148, 0) 0 ([some (.inr (.inr l0)), some (.inl ((-2)))], [], ω1)) (fun z2 ω2 => some (some (.inl z2), ω2))) else none) else (am_bi (am_run (149, 0) 0 ([some (.inl l2), some (.inl 1), some (.inl 10)], [], ω1)) (fun z3 ω3 => if z3 = 0 then (if am_is ω3 l0 (7, 30) = true then (am_bi (am_run (148, 0) 0 ([some (.inr (.inr l0)), some (.inl ((-2)))], [], ω3)) (fun z4 ω4 => some (some (.inl z4), ω4))) else none) else (if am_is ω3 l0 (7, 30) = true then (am_bi (am_run (151, 0) 0 ([some (.inr (.inr l0)), some (.inl l3)], [], ω3)) (fun z5 ω5 => if ¬ z5 = 0 then (if am_is ω5 l0 (7, 30) = true then (am_bi (am_run (156, 0) 0 ([some (.inr (.inr l0)), some (.inl l1)], [], ω5)) (fun z6 ω6 => if 0 ≤ z6 then (if am_is ω6 l0 (7, 30) = true then (if am_in ω6 (am_get ω6 l0.toNat 1) 100 l1 = true then (if (am_w (3 * l2)) ≤ (am_get ω6 (am_get ω6 l0.toNat 1).toNat l1.toNat) then (am_run (218, 0) 76 ([some (.inr (.inr l0)), some (.inl l1), some (.inl l2), some (.inl l3), some (.inl z6), some (.inl 0), none, none, none, none, none, none], [], ω6)) else (am_bi (am_run (148, 0) 0 ([some (.inr (.inr l0)), some (.inl ((-2)))], [], ω6)) (fun z7 ω7 => some (some (.inl z7), ω7)))) else none) else none) else (if am_is ω6 l0 (7, 30) = true then (am_bi (am_run (148, 0) 0 ([some (.inr (.inr l0)), some (.inl z6)], [], ω6)) (fun z8 ω8 => some (some (.inl z8), ω8))) else none))) else none) else (if am_is ω5 l0 (7, 30) = true then (am_bi (am_run (148, 0) 0 ([some (.inr (.inr l0)), some (.inl ((-2)))], [], ω5)) (fun z9 ω9 => some (some (.inl z9), ω9))) else none))) else none)))) := by
  refine Eq.trans (rr_iload_n rfl rfl) ?_
  refine Eq.trans (rr_iconst rfl rfl) ?_
  refine Eq.trans (rr_bipush rfl rfl) ?_
  refine Eq.trans (rr_invS2i (S' := []) (L' := [some (.inl l1), some (.inl 0), some (.inl 7)]) (m' := (149, 0)) rfl rfl rfl rfl rfl rfl) ?_
  refine bi_cg (fun z1 ω1 => ?_)
  refine Eq.trans (rr_if_eq rfl rfl) (it_cg (fun _ => ?_) (fun _ => ?_))
  · refine Eq.trans (rr_aload_n rfl rfl) ?_
    refine Eq.trans (rr_bipush rfl rfl) ?_
    refine ck_it (fun h => rr_invV0i (S' := []) (L' := [some (.inr (.inr l0)), some (.inl ((-2)))]) (m' := (148, 0)) rfl rfl rfl rfl rfl rfl h) (fun h => rr_invV0_no (S' := []) (L' := [some (.inr (.inr l0)), some (.inl ((-2)))]) (m' := (148, 0)) rfl rfl rfl rfl rfl rfl h) (fun h1 => ?_)
    refine bi_cg (fun z2 ω2 => ?_)
    exact rr_ireturn rfl rfl
  · refine Eq.trans (rr_iload_n rfl rfl) ?_
    refine Eq.trans (rr_iconst rfl rfl) ?_
    refine Eq.trans (rr_bipush rfl rfl) ?_
    refine Eq.trans (rr_invS2i (S' := []) (L' := [some (.inl l2), some (.inl 1), some (.inl 10)]) (m' := (149, 0)) rfl rfl rfl rfl rfl rfl) ?_
    refine bi_cg (fun z3 ω3 => ?_)
    refine Eq.trans (rr_if_eq rfl rfl) (it_cg (fun _ => ?_) (fun _ => ?_))
    · refine Eq.trans (rr_aload_n rfl rfl) ?_
      refine Eq.trans (rr_bipush rfl rfl) ?_
      refine ck_it (fun h => rr_invV0i (S' := []) (L' := [some (.inr (.inr l0)), some (.inl ((-2)))]) (m' := (148, 0)) rfl rfl rfl rfl rfl rfl h) (fun h => rr_invV0_no (S' := []) (L' := [some (.inr (.inr l0)), some (.inl ((-2)))]) (m' := (148, 0)) rfl rfl rfl rfl rfl rfl h) (fun h2 => ?_)
      refine bi_cg (fun z4 ω4 => ?_)
      exact rr_ireturn rfl rfl
    · refine Eq.trans (rr_aload_n rfl rfl) ?_
      refine Eq.trans (rr_iload_n rfl rfl) ?_
      refine ck_it (fun h => rr_invV0i (S' := []) (L' := [some (.inr (.inr l0)), some (.inl l3)]) (m' := (151, 0)) rfl rfl rfl rfl rfl rfl h) (fun h => rr_invV0_no (S' := []) (L' := [some (.inr (.inr l0)), some (.inl l3)]) (m' := (151, 0)) rfl rfl rfl rfl rfl rfl h) (fun h3 => ?_)
      refine bi_cg (fun z5 ω5 => ?_)
      refine Eq.trans (rr_if_ne rfl rfl) (it_cg (fun _ => ?_) (fun _ => ?_))
      · refine Eq.trans (rr_aload_n rfl rfl) ?_
        refine Eq.trans (rr_iload_n rfl rfl) ?_
        refine ck_it (fun h => rr_invV0i (S' := []) (L' := [some (.inr (.inr l0)), some (.inl l1)]) (m' := (156, 0)) rfl rfl rfl rfl rfl rfl h) (fun h => rr_invV0_no (S' := []) (L' := [some (.inr (.inr l0)), some (.inl l1)]) (m' := (156, 0)) rfl rfl rfl rfl rfl rfl h) (fun h4 => ?_)
        refine bi_cg (fun z6 ω6 => ?_)
        refine Eq.trans (rr_istore (L' := [some (.inr (.inr l0)), some (.inl l1), some (.inl l2), some (.inl l3), some (.inl z6), none, none, none, none, none, none, none]) rfl rfl) ?_
        refine Eq.trans (rr_iload rfl rfl) ?_
        refine Eq.trans (rr_if_ge rfl rfl) (it_cg (fun _ => ?_) (fun _ => ?_))
        · refine Eq.trans (rr_iconst rfl rfl) ?_
          refine Eq.trans (rr_iload_n rfl rfl) ?_
          refine Eq.trans (rr_imul rfl) ?_
          refine Eq.trans (rr_aload_n rfl rfl) ?_
          refine ck_it (fun h => rr_getfr rfl rfl rfl h) (fun h => rr_getfield_no rfl rfl h) (fun h5 => ?_)
          refine Eq.trans (rr_iload_n rfl rfl) ?_
          refine ck_it (fun h => rr_iaload rfl rfl h) (fun h => rr_iaload_no rfl rfl h) (fun h6 => ?_)
          refine Eq.trans (rr_icmp_le rfl rfl) (it_cg (fun _ => ?_) (fun _ => ?_))
          · refine Eq.trans (rr_iconst rfl rfl) ?_
            refine Eq.trans (rr_istore (L' := [some (.inr (.inr l0)), some (.inl l1), some (.inl l2), some (.inl l3), some (.inl z6), some (.inl 0), none, none, none, none, none, none]) rfl rfl) ?_
            rfl
          · refine Eq.trans (rr_aload_n rfl rfl) ?_
            refine Eq.trans (rr_bipush rfl rfl) ?_
            refine Eq.trans (rr_invV0i (S' := []) (L' := [some (.inr (.inr l0)), some (.inl ((-2)))]) (m' := (148, 0)) rfl rfl rfl rfl rfl rfl h5) ?_
            refine bi_cg (fun z7 ω7 => ?_)
            exact rr_ireturn rfl rfl
        · refine Eq.trans (rr_aload_n rfl rfl) ?_
          refine Eq.trans (rr_iload rfl rfl) ?_
          refine ck_it (fun h => rr_invV0i (S' := []) (L' := [some (.inr (.inr l0)), some (.inl z6)]) (m' := (148, 0)) rfl rfl rfl rfl rfl rfl h) (fun h => rr_invV0_no (S' := []) (L' := [some (.inr (.inr l0)), some (.inl z6)]) (m' := (148, 0)) rfl rfl rfl rfl rfl rfl h) (fun h7 => ?_)
          refine bi_cg (fun z8 ω8 => ?_)
          exact rr_ireturn rfl rfl
      · refine Eq.trans (rr_aload_n rfl rfl) ?_
        refine Eq.trans (rr_bipush rfl rfl) ?_
        refine ck_it (fun h => rr_invV0i (S' := []) (L' := [some (.inr (.inr l0)), some (.inl ((-2)))]) (m' := (148, 0)) rfl rfl rfl rfl rfl rfl h) (fun h => rr_invV0_no (S' := []) (L' := [some (.inr (.inr l0)), some (.inl ((-2)))]) (m' := (148, 0)) rfl rfl rfl rfl rfl rfl h) (fun h8 => ?_)
        refine bi_cg (fun z9 ω9 => ?_)
        exact rr_ireturn rfl rfl
theorem pX7_burnt_76 (l0 l1 l2 l3 l4 l5 : Int) (o6 o8 o10 o7 o9 o11 : Option am_V) (ω : am_W) (h1 : am_is ω l0 (7, 30) = true) : am_run (218, 0) 76 ([some (.inr (.inr l0)), some (.inl l1), some (.inl l2), some (.inl l3), some (.inl l4), some (.inl l5), o6, o7, o8, o9, o10, o11], [], ω) = if l2 ≤ l5 then (am_bv (am_run (201, 0) 0 ([some (.inr (.inr l0)), some (.inl l3), some (.inl 0), none], [], ω)) (fun ω1 => am_run (218, 0) 242 ([some (.inr (.inr l0)), some (.inl l1), some (.inl l2), some (.inl l3), some (.inl l4), some (.inl 0), some (.inl 0), some (.inl 0), o8, o9, o10, o11], [], ω1))) else (if am_in ω (am_get ω l0.toNat 2) 101 (am_w ((am_w (40 * l1)) + (am_w (3 * l5)))) = true then (if am_in ω (am_get ω l0.toNat 2) 101 (am_w ((am_w ((am_w (40 * l1)) + (am_w (3 * l5)))) + 1)) = true then (if am_in ω (am_get ω l0.toNat 2) 101 (am_w ((am_w ((am_w (40 * l1)) + (am_w (3 * l5)))) + 2)) = true then (if l5 ≤ 0 then (am_run (218, 0) 161 ([some (.inr (.inr l0)), some (.inl l1), some (.inl l2), some (.inl l3), some (.inl l4), some (.inl l5), some (.inr (.inl (am_get ω (am_get ω l0.toNat 2).toNat (am_w ((am_w (40 * l1)) + (am_w (3 * l5)))).toNat))), none, some (.inr (.inl (am_get ω (am_get ω l0.toNat 2).toNat (am_w ((am_w ((am_w (40 * l1)) + (am_w (3 * l5)))) + 1)).toNat))), none, some (.inr (.inl (am_get ω (am_get ω l0.toNat 2).toNat (am_w ((am_w ((am_w (40 * l1)) + (am_w (3 * l5)))) + 2)).toNat))), none], [.inr (.inl 0), .inr (.inl (am_get ω (am_get ω l0.toNat 2).toNat (am_w ((am_w (40 * l1)) + (am_w (3 * l5)))).toNat))], ω)) else (if am_in ω (am_get ω l0.toNat 2) 101 (am_w ((am_w ((am_w (40 * l1)) + (am_w (3 * l5)))) - 3)) = true then (am_run (218, 0) 161 ([some (.inr (.inr l0)), some (.inl l1), some (.inl l2), some (.inl l3), some (.inl l4), some (.inl l5), some (.inr (.inl (am_get ω (am_get ω l0.toNat 2).toNat (am_w ((am_w (40 * l1)) + (am_w (3 * l5)))).toNat))), none, some (.inr (.inl (am_get ω (am_get ω l0.toNat 2).toNat (am_w ((am_w ((am_w (40 * l1)) + (am_w (3 * l5)))) + 1)).toNat))), none, some (.inr (.inl (am_get ω (am_get ω l0.toNat 2).toNat (am_w ((am_w ((am_w (40 * l1)) + (am_w (3 * l5)))) + 2)).toNat))), none], [.inr (.inl (am_get ω (am_get ω l0.toNat 2).toNat (am_w ((am_w ((am_w (40 * l1)) + (am_w (3 * l5)))) - 3)).toNat)), .inr (.inl (am_get ω (am_get ω l0.toNat 2).toNat (am_w ((am_w (40 * l1)) + (am_w (3 * l5)))).toNat))], ω)) else none)) else none) else none) else none) := by
  refine Eq.trans (rr_iload rfl rfl) ?_
  refine Eq.trans (rr_iload_n rfl rfl) ?_
  refine Eq.trans (rr_icmp_ge rfl rfl) (it_cg (fun _ => ?_) (fun _ => ?_))
  · refine Eq.trans (rr_aload_n rfl rfl) ?_
    refine Eq.trans (rr_iload_n rfl rfl) ?_
    refine Eq.trans (rr_iconst rfl rfl) ?_
    refine Eq.trans (rr_invV0v (S' := []) (L' := [some (.inr (.inr l0)), some (.inl l3), some (.inl 0), none]) (m' := (201, 0)) rfl rfl rfl rfl rfl rfl h1) ?_
    refine bv_cg (fun ω1 => ?_)
    refine Eq.trans (rr_iconst rfl rfl) ?_
    refine Eq.trans (rr_istore (L' := [some (.inr (.inr l0)), some (.inl l1), some (.inl l2), some (.inl l3), some (.inl l4), some (.inl 0), o6, o7, o8, o9, o10, o11]) rfl rfl) ?_
    refine Eq.trans (rr_iconst rfl rfl) ?_
    refine Eq.trans (rr_istore (L' := [some (.inr (.inr l0)), some (.inl l1), some (.inl l2), some (.inl l3), some (.inl l4), some (.inl 0), some (.inl 0), o7, o8, o9, o10, o11]) rfl rfl) ?_
    refine Eq.trans (rr_iconst rfl rfl) ?_
    refine Eq.trans (rr_istore (L' := [some (.inr (.inr l0)), some (.inl l1), some (.inl l2), some (.inl l3), some (.inl l4), some (.inl 0), some (.inl 0), some (.inl 0), o8, o9, o10, o11]) rfl rfl) ?_
    rfl
  · refine Eq.trans (rr_aload_n rfl rfl) ?_
    refine Eq.trans (rr_getfr rfl rfl rfl h1) ?_
    refine Eq.trans (rr_bipush rfl rfl) ?_
    refine Eq.trans (rr_iload_n rfl rfl) ?_
    refine Eq.trans (rr_imul rfl) ?_
    refine Eq.trans (rr_iconst rfl rfl) ?_
    refine Eq.trans (rr_iload rfl rfl) ?_
    refine Eq.trans (rr_imul rfl) ?_
    refine Eq.trans (rr_iadd rfl) ?_
    refine ck_it (fun h => rr_laload rfl h) (fun h => rr_laload_no rfl h) (fun h2 => ?_)
    refine Eq.trans (rr_lstore (L' := [some (.inr (.inr l0)), some (.inl l1), some (.inl l2), some (.inl l3), some (.inl l4), some (.inl l5), some (.inr (.inl (am_get ω (am_get ω l0.toNat 2).toNat (am_w ((am_w (40 * l1)) + (am_w (3 * l5)))).toNat))), none, o8, o9, o10, o11]) rfl rfl) ?_
    refine Eq.trans (rr_aload_n rfl rfl) ?_
    refine Eq.trans (rr_getfr rfl rfl rfl h1) ?_
    refine Eq.trans (rr_bipush rfl rfl) ?_
    refine Eq.trans (rr_iload_n rfl rfl) ?_
    refine Eq.trans (rr_imul rfl) ?_
    refine Eq.trans (rr_iconst rfl rfl) ?_
    refine Eq.trans (rr_iload rfl rfl) ?_
    refine Eq.trans (rr_imul rfl) ?_
    refine Eq.trans (rr_iadd rfl) ?_
    refine Eq.trans (rr_iconst rfl rfl) ?_
    refine Eq.trans (rr_iadd rfl) ?_
    refine ck_it (fun h => rr_laload rfl h) (fun h => rr_laload_no rfl h) (fun h3 => ?_)
    refine Eq.trans (rr_lstore (L' := [some (.inr (.inr l0)), some (.inl l1), some (.inl l2), some (.inl l3), some (.inl l4), some (.inl l5), some (.inr (.inl (am_get ω (am_get ω l0.toNat 2).toNat (am_w ((am_w (40 * l1)) + (am_w (3 * l5)))).toNat))), none, some (.inr (.inl (am_get ω (am_get ω l0.toNat 2).toNat (am_w ((am_w ((am_w (40 * l1)) + (am_w (3 * l5)))) + 1)).toNat))), none, o10, o11]) rfl rfl) ?_
    refine Eq.trans (rr_aload_n rfl rfl) ?_
    refine Eq.trans (rr_getfr rfl rfl rfl h1) ?_
    refine Eq.trans (rr_bipush rfl rfl) ?_
    refine Eq.trans (rr_iload_n rfl rfl) ?_
    refine Eq.trans (rr_imul rfl) ?_
    refine Eq.trans (rr_iconst rfl rfl) ?_
    refine Eq.trans (rr_iload rfl rfl) ?_
    refine Eq.trans (rr_imul rfl) ?_
    refine Eq.trans (rr_iadd rfl) ?_
    refine Eq.trans (rr_iconst rfl rfl) ?_
    refine Eq.trans (rr_iadd rfl) ?_
    refine ck_it (fun h => rr_laload rfl h) (fun h => rr_laload_no rfl h) (fun h4 => ?_)
    refine Eq.trans (rr_lstore (L' := [some (.inr (.inr l0)), some (.inl l1), some (.inl l2), some (.inl l3), some (.inl l4), some (.inl l5), some (.inr (.inl (am_get ω (am_get ω l0.toNat 2).toNat (am_w ((am_w (40 * l1)) + (am_w (3 * l5)))).toNat))), none, some (.inr (.inl (am_get ω (am_get ω l0.toNat 2).toNat (am_w ((am_w ((am_w (40 * l1)) + (am_w (3 * l5)))) + 1)).toNat))), none, some (.inr (.inl (am_get ω (am_get ω l0.toNat 2).toNat (am_w ((am_w ((am_w (40 * l1)) + (am_w (3 * l5)))) + 2)).toNat))), none]) rfl rfl) ?_
    refine Eq.trans (rr_lload rfl rfl) ?_
    refine Eq.trans (rr_iload rfl rfl) ?_
    refine Eq.trans (rr_if_le rfl rfl) (it_cg (fun _ => ?_) (fun _ => ?_))
    · refine Eq.trans (rr_lconst rfl) ?_
      rfl
    · refine Eq.trans (rr_aload_n rfl rfl) ?_
      refine Eq.trans (rr_getfr rfl rfl rfl h1) ?_
      refine Eq.trans (rr_bipush rfl rfl) ?_
      refine Eq.trans (rr_iload_n rfl rfl) ?_
      refine Eq.trans (rr_imul rfl) ?_
      refine Eq.trans (rr_iconst rfl rfl) ?_
      refine Eq.trans (rr_iload rfl rfl) ?_
      refine Eq.trans (rr_imul rfl) ?_
      refine Eq.trans (rr_iadd rfl) ?_
      refine Eq.trans (rr_iconst rfl rfl) ?_
      refine Eq.trans (rr_isub rfl) ?_
      refine ck_it (fun h => rr_laload rfl h) (fun h => rr_laload_no rfl h) (fun h5 => ?_)
      refine Eq.trans (rr_goto rfl rfl) ?_
      rfl
theorem pX7_burnt_161 (l0 l1 l2 l3 l4 l5 l6 l8 l10 s0 s1 : Int) (ω : am_W) (h1 : am_is ω l0 (7, 30) = true) : am_run (218, 0) 161 ([some (.inr (.inr l0)), some (.inl l1), some (.inl l2), some (.inl l3), some (.inl l4), some (.inl l5), some (.inr (.inl l6)), none, some (.inr (.inl l8)), none, some (.inr (.inl l10)), none], [.inr (.inl s1), .inr (.inl s0)], ω) = if (am_cmp s0 s1) < 0 then (am_bi (am_run (148, 0) 0 ([some (.inr (.inr l0)), some (.inl ((-2)))], [], ω)) (fun z1 ω1 => some (some (.inl z1), ω1))) else (if 0 < (am_cmp l6 60) then (am_bi (am_run (148, 0) 0 ([some (.inr (.inr l0)), some (.inl ((-2)))], [], ω)) (fun z2 ω2 => some (some (.inl z2), ω2))) else (if (am_cmp l8 0) < 0 then (am_bi (am_run (148, 0) 0 ([some (.inr (.inr l0)), some (.inl ((-2)))], [], ω)) (fun z3 ω3 => some (some (.inl z3), ω3))) else (if 0 ≤ (am_cmp l8 (am_get ω l0.toNat 3)) then (am_bi (am_run (148, 0) 0 ([some (.inr (.inr l0)), some (.inl ((-2)))], [], ω)) (fun z4 ω4 => some (some (.inl z4), ω4))) else (if (am_cmp l10 0) < 0 then (am_bi (am_run (148, 0) 0 ([some (.inr (.inr l0)), some (.inl ((-2)))], [], ω)) (fun z5 ω5 => some (some (.inl z5), ω5))) else (if am_in ω (am_get ω l0.toNat 4) 100 (am_w l8) = true then (if (am_cmp l10 (am_get ω (am_get ω l0.toNat 4).toNat (am_w l8).toNat)) < 0 then (am_run (218, 0) 76 ([some (.inr (.inr l0)), some (.inl l1), some (.inl l2), some (.inl l3), some (.inl l4), some (.inl (am_w (l5 + 1))), some (.inr (.inl l6)), none, some (.inr (.inl l8)), none, some (.inr (.inl l10)), none], [], ω)) else (am_bi (am_run (148, 0) 0 ([some (.inr (.inr l0)), some (.inl ((-2)))], [], ω)) (fun z6 ω6 => some (some (.inl z6), ω6)))) else none))))) := by
  refine Eq.trans (rr_lcmp rfl) ?_
  refine Eq.trans (rr_if_lt rfl rfl) (it_cg (fun _ => ?_) (fun _ => ?_))
  · refine Eq.trans (rr_aload_n rfl rfl) ?_
    refine Eq.trans (rr_bipush rfl rfl) ?_
    refine Eq.trans (rr_invV0i (S' := []) (L' := [some (.inr (.inr l0)), some (.inl ((-2)))]) (m' := (148, 0)) rfl rfl rfl rfl rfl rfl h1) ?_
    refine bi_cg (fun z1 ω1 => ?_)
    exact rr_ireturn rfl rfl
  · refine Eq.trans (rr_lload rfl rfl) ?_
    refine Eq.trans (rr_ldc2 rfl rfl) ?_
    refine Eq.trans (rr_lcmp rfl) ?_
    refine Eq.trans (rr_if_gt rfl rfl) (it_cg (fun _ => ?_) (fun _ => ?_))
    · refine Eq.trans (rr_aload_n rfl rfl) ?_
      refine Eq.trans (rr_bipush rfl rfl) ?_
      refine Eq.trans (rr_invV0i (S' := []) (L' := [some (.inr (.inr l0)), some (.inl ((-2)))]) (m' := (148, 0)) rfl rfl rfl rfl rfl rfl h1) ?_
      refine bi_cg (fun z2 ω2 => ?_)
      exact rr_ireturn rfl rfl
    · refine Eq.trans (rr_lload rfl rfl) ?_
      refine Eq.trans (rr_lconst rfl) ?_
      refine Eq.trans (rr_lcmp rfl) ?_
      refine Eq.trans (rr_if_lt rfl rfl) (it_cg (fun _ => ?_) (fun _ => ?_))
      · refine Eq.trans (rr_aload_n rfl rfl) ?_
        refine Eq.trans (rr_bipush rfl rfl) ?_
        refine Eq.trans (rr_invV0i (S' := []) (L' := [some (.inr (.inr l0)), some (.inl ((-2)))]) (m' := (148, 0)) rfl rfl rfl rfl rfl rfl h1) ?_
        refine bi_cg (fun z3 ω3 => ?_)
        exact rr_ireturn rfl rfl
      · refine Eq.trans (rr_lload rfl rfl) ?_
        refine Eq.trans (rr_aload_n rfl rfl) ?_
        refine Eq.trans (rr_getfi rfl rfl rfl h1) ?_
        refine Eq.trans (rr_i2l rfl) ?_
        refine Eq.trans (rr_lcmp rfl) ?_
        refine Eq.trans (rr_if_ge rfl rfl) (it_cg (fun _ => ?_) (fun _ => ?_))
        · refine Eq.trans (rr_aload_n rfl rfl) ?_
          refine Eq.trans (rr_bipush rfl rfl) ?_
          refine Eq.trans (rr_invV0i (S' := []) (L' := [some (.inr (.inr l0)), some (.inl ((-2)))]) (m' := (148, 0)) rfl rfl rfl rfl rfl rfl h1) ?_
          refine bi_cg (fun z4 ω4 => ?_)
          exact rr_ireturn rfl rfl
        · refine Eq.trans (rr_lload rfl rfl) ?_
          refine Eq.trans (rr_lconst rfl) ?_
          refine Eq.trans (rr_lcmp rfl) ?_
          refine Eq.trans (rr_if_lt rfl rfl) (it_cg (fun _ => ?_) (fun _ => ?_))
          · refine Eq.trans (rr_aload_n rfl rfl) ?_
            refine Eq.trans (rr_bipush rfl rfl) ?_
            refine Eq.trans (rr_invV0i (S' := []) (L' := [some (.inr (.inr l0)), some (.inl ((-2)))]) (m' := (148, 0)) rfl rfl rfl rfl rfl rfl h1) ?_
            refine bi_cg (fun z5 ω5 => ?_)
            exact rr_ireturn rfl rfl
          · refine Eq.trans (rr_lload rfl rfl) ?_
            refine Eq.trans (rr_aload_n rfl rfl) ?_
            refine Eq.trans (rr_getfr rfl rfl rfl h1) ?_
            refine Eq.trans (rr_lload rfl rfl) ?_
            refine Eq.trans (rr_l2i rfl) ?_
            refine ck_it (fun h => rr_iaload rfl rfl h) (fun h => rr_iaload_no rfl rfl h) (fun h2 => ?_)
            refine Eq.trans (rr_i2l rfl) ?_
            refine Eq.trans (rr_lcmp rfl) ?_
            refine Eq.trans (rr_if_lt rfl rfl) (it_cg (fun _ => ?_) (fun _ => ?_))
            · refine Eq.trans (rr_iinc (L' := [some (.inr (.inr l0)), some (.inl l1), some (.inl l2), some (.inl l3), some (.inl l4), some (.inl (am_w (l5 + 1))), some (.inr (.inl l6)), none, some (.inr (.inl l8)), none, some (.inr (.inl l10)), none]) rfl rfl rfl) ?_
              refine Eq.trans (rr_goto rfl rfl) ?_
              rfl
            · refine Eq.trans (rr_aload_n rfl rfl) ?_
              refine Eq.trans (rr_bipush rfl rfl) ?_
              refine Eq.trans (rr_invV0i (S' := []) (L' := [some (.inr (.inr l0)), some (.inl ((-2)))]) (m' := (148, 0)) rfl rfl rfl rfl rfl rfl h1) ?_
              refine bi_cg (fun z6 ω6 => ?_)
              exact rr_ireturn rfl rfl
theorem pX7_burnt_242 (l0 l1 l2 l3 l4 l5 l6 l7 : Int) (o8 o9 o10 o11 : Option am_V) (ω : am_W) : am_run (218, 0) 242 ([some (.inr (.inr l0)), some (.inl l1), some (.inl l2), some (.inl l3), some (.inl l4), some (.inl l5), some (.inl l6), some (.inl l7), o8, o9, o10, o11], [], ω) = if l2 ≤ l7 then (if ¬ l6 = 10000 then (some (some (.inl l6), ω)) else (some (some (.inl ((-1))), ω))) else (am_run (218, 0) 248 ([some (.inr (.inr l0)), some (.inl l1), some (.inl l2), some (.inl l3), some (.inl l4), some (.inl l5), some (.inl l6), some (.inl l7), o8, o9, o10, o11], [], ω)) := by
  refine Eq.trans (rr_iload rfl rfl) ?_
  refine Eq.trans (rr_iload_n rfl rfl) ?_
  refine Eq.trans (rr_icmp_ge rfl rfl) (it_cg (fun _ => ?_) (fun _ => ?_))
  · refine Eq.trans (rr_iload rfl rfl) ?_
    refine Eq.trans (rr_sipush rfl rfl) ?_
    refine Eq.trans (rr_icmp_ne rfl rfl) (it_cg (fun _ => ?_) (fun _ => ?_))
    · refine Eq.trans (rr_iload rfl rfl) ?_
      exact rr_ireturn rfl rfl
    · refine Eq.trans (rr_iconst rfl rfl) ?_
      refine Eq.trans (rr_goto rfl rfl) ?_
      exact rr_ireturn rfl rfl
  · rfl
theorem pX7_burnt_248 (l0 l1 l2 l3 l4 l5 l6 l7 : Int) (o8 o9 o10 o11 : Option am_V) (ω : am_W) (h1 : am_is ω l0 (7, 30) = true) : am_run (218, 0) 248 ([some (.inr (.inr l0)), some (.inl l1), some (.inl l2), some (.inl l3), some (.inl l4), some (.inl l5), some (.inl l6), some (.inl l7), o8, o9, o10, o11], [], ω) = if am_in ω (am_get ω l0.toNat 2) 101 (am_w ((am_w (40 * l1)) + (am_w (3 * l7)))) = true then (if 0 ≤ (am_cmp l5 (am_get ω (am_get ω l0.toNat 2).toNat (am_w ((am_w (40 * l1)) + (am_w (3 * l7)))).toNat)) then (if am_in ω (am_get ω l0.toNat 2) 101 (am_w ((am_w ((am_w (40 * l1)) + (am_w (3 * l7)))) + 1)) = true then (if am_in ω (am_get ω l0.toNat 2) 101 (am_w ((am_w ((am_w (40 * l1)) + (am_w (3 * l7)))) + 2)) = true then (am_bi (am_run (200, 0) 0 ([some (.inl (am_w (am_get ω (am_get ω l0.toNat 2).toNat (am_w ((am_w ((am_w (40 * l1)) + (am_w (3 * l7)))) + 1)).toNat))), some (.inl (am_w (am_get ω (am_get ω l0.toNat 2).toNat (am_w ((am_w ((am_w (40 * l1)) + (am_w (3 * l7)))) + 2)).toNat))), some (.inl 0), some (.inl 0)], [], ω)) (fun z1 ω1 => if am_is ω1 l0 (7, 30) = true then (if am_in ω1 (am_get ω1 l0.toNat 25) 100 z1 = true then (am_run (218, 0) 333 ([some (.inr (.inr l0)), some (.inl l1), some (.inl l2), some (.inl l3), some (.inl l4), some (.inl l5), some (.inl (am_get ω1 (am_get ω1 l0.toNat 25).toNat z1.toNat)), some (.inl l7), some (.inl z1), some (.inl 0), o10, o11], [], ω1)) else none) else none)) else none) else none) else (am_bv (am_run (203, 0) 0 ([some (.inr (.inr l0)), some (.inl l3), none, none, none, none, none, none, none], [], ω)) (fun ω2 => am_run (218, 0) 248 ([some (.inr (.inr l0)), some (.inl l1), some (.inl l2), some (.inl l3), some (.inl l4), some (.inl (am_w (l5 + 1))), some (.inl l6), some (.inl l7), o8, o9, o10, o11], [], ω2)))) else none := by
  refine Eq.trans (rr_iload rfl rfl) ?_
  refine Eq.trans (rr_i2l rfl) ?_
  refine Eq.trans (rr_aload_n rfl rfl) ?_
  refine Eq.trans (rr_getfr rfl rfl rfl h1) ?_
  refine Eq.trans (rr_bipush rfl rfl) ?_
  refine Eq.trans (rr_iload_n rfl rfl) ?_
  refine Eq.trans (rr_imul rfl) ?_
  refine Eq.trans (rr_iconst rfl rfl) ?_
  refine Eq.trans (rr_iload rfl rfl) ?_
  refine Eq.trans (rr_imul rfl) ?_
  refine Eq.trans (rr_iadd rfl) ?_
  refine ck_it (fun h => rr_laload rfl h) (fun h => rr_laload_no rfl h) (fun h2 => ?_)
  refine Eq.trans (rr_lcmp rfl) ?_
  refine Eq.trans (rr_if_ge rfl rfl) (it_cg (fun _ => ?_) (fun _ => ?_))
  · refine Eq.trans (rr_aload_n rfl rfl) ?_
    refine Eq.trans (rr_getfr rfl rfl rfl h1) ?_
    refine Eq.trans (rr_bipush rfl rfl) ?_
    refine Eq.trans (rr_iload_n rfl rfl) ?_
    refine Eq.trans (rr_imul rfl) ?_
    refine Eq.trans (rr_iconst rfl rfl) ?_
    refine Eq.trans (rr_iload rfl rfl) ?_
    refine Eq.trans (rr_imul rfl) ?_
    refine Eq.trans (rr_iadd rfl) ?_
    refine Eq.trans (rr_iconst rfl rfl) ?_
    refine Eq.trans (rr_iadd rfl) ?_
    refine ck_it (fun h => rr_laload rfl h) (fun h => rr_laload_no rfl h) (fun h3 => ?_)
    refine Eq.trans (rr_l2i rfl) ?_
    refine Eq.trans (rr_aload_n rfl rfl) ?_
    refine Eq.trans (rr_getfr rfl rfl rfl h1) ?_
    refine Eq.trans (rr_bipush rfl rfl) ?_
    refine Eq.trans (rr_iload_n rfl rfl) ?_
    refine Eq.trans (rr_imul rfl) ?_
    refine Eq.trans (rr_iconst rfl rfl) ?_
    refine Eq.trans (rr_iload rfl rfl) ?_
    refine Eq.trans (rr_imul rfl) ?_
    refine Eq.trans (rr_iadd rfl) ?_
    refine Eq.trans (rr_iconst rfl rfl) ?_
    refine Eq.trans (rr_iadd rfl) ?_
    refine ck_it (fun h => rr_laload rfl h) (fun h => rr_laload_no rfl h) (fun h4 => ?_)
    refine Eq.trans (rr_l2i rfl) ?_
    refine Eq.trans (rr_iconst rfl rfl) ?_
    refine Eq.trans (rr_iconst rfl rfl) ?_
    refine Eq.trans (rr_invS2i (S' := []) (L' := [some (.inl (am_w (am_get ω (am_get ω l0.toNat 2).toNat (am_w ((am_w ((am_w (40 * l1)) + (am_w (3 * l7)))) + 1)).toNat))), some (.inl (am_w (am_get ω (am_get ω l0.toNat 2).toNat (am_w ((am_w ((am_w (40 * l1)) + (am_w (3 * l7)))) + 2)).toNat))), some (.inl 0), some (.inl 0)]) (m' := (200, 0)) rfl rfl rfl rfl rfl rfl) ?_
    refine bi_cg (fun z1 ω1 => ?_)
    refine Eq.trans (rr_istore (L' := [some (.inr (.inr l0)), some (.inl l1), some (.inl l2), some (.inl l3), some (.inl l4), some (.inl l5), some (.inl l6), some (.inl l7), some (.inl z1), o9, o10, o11]) rfl rfl) ?_
    refine Eq.trans (rr_aload_n rfl rfl) ?_
    refine ck_it (fun h => rr_getfr rfl rfl rfl h) (fun h => rr_getfield_no rfl rfl h) (fun h5 => ?_)
    refine Eq.trans (rr_iload rfl rfl) ?_
    refine ck_it (fun h => rr_iaload rfl rfl h) (fun h => rr_iaload_no rfl rfl h) (fun h6 => ?_)
    refine Eq.trans (rr_istore (L' := [some (.inr (.inr l0)), some (.inl l1), some (.inl l2), some (.inl l3), some (.inl l4), some (.inl l5), some (.inl (am_get ω1 (am_get ω1 l0.toNat 25).toNat z1.toNat)), some (.inl l7), some (.inl z1), o9, o10, o11]) rfl rfl) ?_
    refine Eq.trans (rr_iconst rfl rfl) ?_
    refine Eq.trans (rr_istore (L' := [some (.inr (.inr l0)), some (.inl l1), some (.inl l2), some (.inl l3), some (.inl l4), some (.inl l5), some (.inl (am_get ω1 (am_get ω1 l0.toNat 25).toNat z1.toNat)), some (.inl l7), some (.inl z1), some (.inl 0), o10, o11]) rfl rfl) ?_
    rfl
  · refine Eq.trans (rr_aload_n rfl rfl) ?_
    refine Eq.trans (rr_iload_n rfl rfl) ?_
    refine Eq.trans (rr_invV0v (S' := []) (L' := [some (.inr (.inr l0)), some (.inl l3), none, none, none, none, none, none, none]) (m' := (203, 0)) rfl rfl rfl rfl rfl rfl h1) ?_
    refine bv_cg (fun ω2 => ?_)
    refine Eq.trans (rr_iinc (L' := [some (.inr (.inr l0)), some (.inl l1), some (.inl l2), some (.inl l3), some (.inl l4), some (.inl (am_w (l5 + 1))), some (.inl l6), some (.inl l7), o8, o9, o10, o11]) rfl rfl rfl) ?_
    refine Eq.trans (rr_goto rfl rfl) ?_
    rfl
theorem pX7_burnt_333 (l0 l1 l2 l3 l4 l5 l6 l7 l8 l9 : Int) (o10 o11 : Option am_V) (ω : am_W) (h1 : am_is ω l0 (7, 30) = true) : am_run (218, 0) 333 ([some (.inr (.inr l0)), some (.inl l1), some (.inl l2), some (.inl l3), some (.inl l4), some (.inl l5), some (.inl l6), some (.inl l7), some (.inl l8), some (.inl l9), o10, o11], [], ω) = if am_arl ω (am_get ω l0.toNat 25) = true then (if (am_len ω (am_get ω l0.toNat 25)) ≤ l9 then (if am_in ω (am_get ω l0.toNat 25) 100 l8 = true then (am_run (218, 0) 242 ([some (.inr (.inr l0)), some (.inl l1), some (.inl l2), some (.inl l3), some (.inl l4), some (.inl l5), some (.inl l6), some (.inl (am_w (l7 + 1))), some (.inl l8), some (.inl l9), o10, o11], [], am_put ω (am_get ω l0.toNat 25).toNat l8.toNat l6)) else none) else (if am_in ω (am_get ω l0.toNat 25) 100 l9 = true then (am_run (218, 0) 333 ([some (.inr (.inr l0)), some (.inl l1), some (.inl l2), some (.inl l3), some (.inl l4), some (.inl l5), some (.inl l6), some (.inl l7), some (.inl l8), some (.inl (am_w (l9 + 1))), o10, o11], [], am_put ω (am_get ω l0.toNat 25).toNat l9.toNat 10000)) else none)) else none := by
  refine Eq.trans (rr_iload rfl rfl) ?_
  refine Eq.trans (rr_aload_n rfl rfl) ?_
  refine Eq.trans (rr_getfr rfl rfl rfl h1) ?_
  refine ck_it (fun h => rr_arraylength rfl rfl h) (fun h => rr_arraylength_no rfl rfl h) (fun h2 => ?_)
  refine Eq.trans (rr_icmp_ge rfl rfl) (it_cg (fun _ => ?_) (fun _ => ?_))
  · refine Eq.trans (rr_aload_n rfl rfl) ?_
    refine Eq.trans (rr_getfr rfl rfl rfl h1) ?_
    refine Eq.trans (rr_iload rfl rfl) ?_
    refine Eq.trans (rr_iload rfl rfl) ?_
    refine ck_it (fun h => rr_iastore rfl h) (fun h => rr_iastore_no rfl h) (fun h3 => ?_)
    refine Eq.trans (rr_iinc (L' := [some (.inr (.inr l0)), some (.inl l1), some (.inl l2), some (.inl l3), some (.inl l4), some (.inl l5), some (.inl l6), some (.inl (am_w (l7 + 1))), some (.inl l8), some (.inl l9), o10, o11]) rfl rfl rfl) ?_
    refine Eq.trans (rr_goto rfl rfl) ?_
    rfl
  · refine Eq.trans (rr_aload_n rfl rfl) ?_
    refine Eq.trans (rr_getfr rfl rfl rfl h1) ?_
    refine Eq.trans (rr_iload rfl rfl) ?_
    refine Eq.trans (rr_sipush rfl rfl) ?_
    refine ck_it (fun h => rr_iastore rfl h) (fun h => rr_iastore_no rfl h) (fun h4 => ?_)
    refine Eq.trans (rr_iinc (L' := [some (.inr (.inr l0)), some (.inl l1), some (.inl l2), some (.inl l3), some (.inl l4), some (.inl l5), some (.inl l6), some (.inl l7), some (.inl l8), some (.inl (am_w (l9 + 1))), o10, o11]) rfl rfl rfl) ?_
    refine Eq.trans (rr_goto rfl rfl) ?_
    rfl
theorem pX7_tags_0 (lv : Nat) (l0 l1 l2 l3 : Int) (ω : am_W) (h1 : am_is ω l0 (7, 30) = true) : am_run (219, lv + 1) 0 ([some (.inr (.inr l0)), some (.inl l1), some (.inl l2), some (.inl l3), none, none, none, none, none, none, none, none, none, none, none, none], [], ω) = am_bi (am_run (183, 0) 0 ([some (.inr (.inr l0)), some (.inl l1), some (.inl l2)], [], ω)) (fun z1 ω1 => if z1 = 0 then (if ¬ l3 = 0 then (if am_is ω1 l0 (7, 30) = true then (if am_in ω1 (am_get ω1 l0.toNat 8) 100 l1 = true then (if am_in ω1 (am_get ω1 l0.toNat 9) 100 l1 = true then (if am_in ω1 (am_get ω1 l0.toNat 10) 100 l1 = true then (if am_in ω1 (am_get ω1 l0.toNat 11) 100 l1 = true then (if am_in ω1 (am_get ω1 l0.toNat 8) 100 l2 = true then (if am_in ω1 (am_get ω1 l0.toNat 9) 100 l2 = true then (if am_in ω1 (am_get ω1 l0.toNat 10) 100 l2 = true then (if am_in ω1 (am_get ω1 l0.toNat 11) 100 l2 = true then (am_run (219, lv + 1) 87 ([some (.inr (.inr l0)), some (.inl l1), some (.inl l2), some (.inl l3), some (.inl (am_get ω1 (am_get ω1 l0.toNat 8).toNat l1.toNat)), some (.inl (am_get ω1 (am_get ω1 l0.toNat 9).toNat l1.toNat)), some (.inl (am_get ω1 (am_get ω1 l0.toNat 10).toNat l1.toNat)), some (.inl (am_get ω1 (am_get ω1 l0.toNat 11).toNat l1.toNat)), some (.inl (am_get ω1 (am_get ω1 l0.toNat 8).toNat l2.toNat)), some (.inl (am_get ω1 (am_get ω1 l0.toNat 9).toNat l2.toNat)), some (.inl (am_get ω1 (am_get ω1 l0.toNat 10).toNat l2.toNat)), some (.inl (am_get ω1 (am_get ω1 l0.toNat 11).toNat l2.toNat)), some (.inl 0), some (.inl 0), none, none], [], ω1)) else none) else none) else none) else none) else none) else none) else none) else none) else none) else (some (some (.inl 0), ω1))) else (some (some (.inl 1), ω1))) := by
  refine Eq.trans (rr_aload_n rfl rfl) ?_
  refine Eq.trans (rr_iload_n rfl rfl) ?_
  refine Eq.trans (rr_iload_n rfl rfl) ?_
  refine Eq.trans (rr_invV0i (S' := []) (L' := [some (.inr (.inr l0)), some (.inl l1), some (.inl l2)]) (m' := (183, 0)) rfl rfl rfl rfl (by rw [Bool.and_eq_true]; exact ⟨Nat.ble_eq_true_of_le (show (0 + 0) + 1 ≤ 4 + (lv + 1) by omega), rfl⟩) rfl h1) ?_
  refine bi_cg (fun z1 ω1 => ?_)
  refine Eq.trans (rr_if_eq rfl rfl) (it_cg (fun _ => ?_) (fun _ => ?_))
  · refine Eq.trans (rr_iload_n rfl rfl) ?_
    refine Eq.trans (rr_if_ne rfl rfl) (it_cg (fun _ => ?_) (fun _ => ?_))
    · refine Eq.trans (rr_aload_n rfl rfl) ?_
      refine ck_it (fun h => rr_getfr rfl rfl rfl h) (fun h => rr_getfield_no rfl rfl h) (fun h2 => ?_)
      refine Eq.trans (rr_iload_n rfl rfl) ?_
      refine ck_it (fun h => rr_iaload rfl rfl h) (fun h => rr_iaload_no rfl rfl h) (fun h3 => ?_)
      refine Eq.trans (rr_istore (L' := [some (.inr (.inr l0)), some (.inl l1), some (.inl l2), some (.inl l3), some (.inl (am_get ω1 (am_get ω1 l0.toNat 8).toNat l1.toNat)), none, none, none, none, none, none, none, none, none, none, none]) rfl rfl) ?_
      refine Eq.trans (rr_aload_n rfl rfl) ?_
      refine Eq.trans (rr_getfr rfl rfl rfl h2) ?_
      refine Eq.trans (rr_iload_n rfl rfl) ?_
      refine ck_it (fun h => rr_iaload rfl rfl h) (fun h => rr_iaload_no rfl rfl h) (fun h4 => ?_)
      refine Eq.trans (rr_istore (L' := [some (.inr (.inr l0)), some (.inl l1), some (.inl l2), some (.inl l3), some (.inl (am_get ω1 (am_get ω1 l0.toNat 8).toNat l1.toNat)), some (.inl (am_get ω1 (am_get ω1 l0.toNat 9).toNat l1.toNat)), none, none, none, none, none, none, none, none, none, none]) rfl rfl) ?_
      refine Eq.trans (rr_aload_n rfl rfl) ?_
      refine Eq.trans (rr_getfr rfl rfl rfl h2) ?_
      refine Eq.trans (rr_iload_n rfl rfl) ?_
      refine ck_it (fun h => rr_iaload rfl rfl h) (fun h => rr_iaload_no rfl rfl h) (fun h5 => ?_)
      refine Eq.trans (rr_istore (L' := [some (.inr (.inr l0)), some (.inl l1), some (.inl l2), some (.inl l3), some (.inl (am_get ω1 (am_get ω1 l0.toNat 8).toNat l1.toNat)), some (.inl (am_get ω1 (am_get ω1 l0.toNat 9).toNat l1.toNat)), some (.inl (am_get ω1 (am_get ω1 l0.toNat 10).toNat l1.toNat)), none, none, none, none, none, none, none, none, none]) rfl rfl) ?_
      refine Eq.trans (rr_aload_n rfl rfl) ?_
      refine Eq.trans (rr_getfr rfl rfl rfl h2) ?_
      refine Eq.trans (rr_iload_n rfl rfl) ?_
      refine ck_it (fun h => rr_iaload rfl rfl h) (fun h => rr_iaload_no rfl rfl h) (fun h6 => ?_)
      refine Eq.trans (rr_istore (L' := [some (.inr (.inr l0)), some (.inl l1), some (.inl l2), some (.inl l3), some (.inl (am_get ω1 (am_get ω1 l0.toNat 8).toNat l1.toNat)), some (.inl (am_get ω1 (am_get ω1 l0.toNat 9).toNat l1.toNat)), some (.inl (am_get ω1 (am_get ω1 l0.toNat 10).toNat l1.toNat)), some (.inl (am_get ω1 (am_get ω1 l0.toNat 11).toNat l1.toNat)), none, none, none, none, none, none, none, none]) rfl rfl) ?_
      refine Eq.trans (rr_aload_n rfl rfl) ?_
      refine Eq.trans (rr_getfr rfl rfl rfl h2) ?_
      refine Eq.trans (rr_iload_n rfl rfl) ?_
      refine ck_it (fun h => rr_iaload rfl rfl h) (fun h => rr_iaload_no rfl rfl h) (fun h7 => ?_)
      refine Eq.trans (rr_istore (L' := [some (.inr (.inr l0)), some (.inl l1), some (.inl l2), some (.inl l3), some (.inl (am_get ω1 (am_get ω1 l0.toNat 8).toNat l1.toNat)), some (.inl (am_get ω1 (am_get ω1 l0.toNat 9).toNat l1.toNat)), some (.inl (am_get ω1 (am_get ω1 l0.toNat 10).toNat l1.toNat)), some (.inl (am_get ω1 (am_get ω1 l0.toNat 11).toNat l1.toNat)), some (.inl (am_get ω1 (am_get ω1 l0.toNat 8).toNat l2.toNat)), none, none, none, none, none, none, none]) rfl rfl) ?_
      refine Eq.trans (rr_aload_n rfl rfl) ?_
      refine Eq.trans (rr_getfr rfl rfl rfl h2) ?_
      refine Eq.trans (rr_iload_n rfl rfl) ?_
      refine ck_it (fun h => rr_iaload rfl rfl h) (fun h => rr_iaload_no rfl rfl h) (fun h8 => ?_)
      refine Eq.trans (rr_istore (L' := [some (.inr (.inr l0)), some (.inl l1), some (.inl l2), some (.inl l3), some (.inl (am_get ω1 (am_get ω1 l0.toNat 8).toNat l1.toNat)), some (.inl (am_get ω1 (am_get ω1 l0.toNat 9).toNat l1.toNat)), some (.inl (am_get ω1 (am_get ω1 l0.toNat 10).toNat l1.toNat)), some (.inl (am_get ω1 (am_get ω1 l0.toNat 11).toNat l1.toNat)), some (.inl (am_get ω1 (am_get ω1 l0.toNat 8).toNat l2.toNat)), some (.inl (am_get ω1 (am_get ω1 l0.toNat 9).toNat l2.toNat)), none, none, none, none, none, none]) rfl rfl) ?_
      refine Eq.trans (rr_aload_n rfl rfl) ?_
      refine Eq.trans (rr_getfr rfl rfl rfl h2) ?_
      refine Eq.trans (rr_iload_n rfl rfl) ?_
      refine ck_it (fun h => rr_iaload rfl rfl h) (fun h => rr_iaload_no rfl rfl h) (fun h9 => ?_)
      refine Eq.trans (rr_istore (L' := [some (.inr (.inr l0)), some (.inl l1), some (.inl l2), some (.inl l3), some (.inl (am_get ω1 (am_get ω1 l0.toNat 8).toNat l1.toNat)), some (.inl (am_get ω1 (am_get ω1 l0.toNat 9).toNat l1.toNat)), some (.inl (am_get ω1 (am_get ω1 l0.toNat 10).toNat l1.toNat)), some (.inl (am_get ω1 (am_get ω1 l0.toNat 11).toNat l1.toNat)), some (.inl (am_get ω1 (am_get ω1 l0.toNat 8).toNat l2.toNat)), some (.inl (am_get ω1 (am_get ω1 l0.toNat 9).toNat l2.toNat)), some (.inl (am_get ω1 (am_get ω1 l0.toNat 10).toNat l2.toNat)), none, none, none, none, none]) rfl rfl) ?_
      refine Eq.trans (rr_aload_n rfl rfl) ?_
      refine Eq.trans (rr_getfr rfl rfl rfl h2) ?_
      refine Eq.trans (rr_iload_n rfl rfl) ?_
      refine ck_it (fun h => rr_iaload rfl rfl h) (fun h => rr_iaload_no rfl rfl h) (fun h10 => ?_)
      refine Eq.trans (rr_istore (L' := [some (.inr (.inr l0)), some (.inl l1), some (.inl l2), some (.inl l3), some (.inl (am_get ω1 (am_get ω1 l0.toNat 8).toNat l1.toNat)), some (.inl (am_get ω1 (am_get ω1 l0.toNat 9).toNat l1.toNat)), some (.inl (am_get ω1 (am_get ω1 l0.toNat 10).toNat l1.toNat)), some (.inl (am_get ω1 (am_get ω1 l0.toNat 11).toNat l1.toNat)), some (.inl (am_get ω1 (am_get ω1 l0.toNat 8).toNat l2.toNat)), some (.inl (am_get ω1 (am_get ω1 l0.toNat 9).toNat l2.toNat)), some (.inl (am_get ω1 (am_get ω1 l0.toNat 10).toNat l2.toNat)), some (.inl (am_get ω1 (am_get ω1 l0.toNat 11).toNat l2.toNat)), none, none, none, none]) rfl rfl) ?_
      refine Eq.trans (rr_iconst rfl rfl) ?_
      refine Eq.trans (rr_istore (L' := [some (.inr (.inr l0)), some (.inl l1), some (.inl l2), some (.inl l3), some (.inl (am_get ω1 (am_get ω1 l0.toNat 8).toNat l1.toNat)), some (.inl (am_get ω1 (am_get ω1 l0.toNat 9).toNat l1.toNat)), some (.inl (am_get ω1 (am_get ω1 l0.toNat 10).toNat l1.toNat)), some (.inl (am_get ω1 (am_get ω1 l0.toNat 11).toNat l1.toNat)), some (.inl (am_get ω1 (am_get ω1 l0.toNat 8).toNat l2.toNat)), some (.inl (am_get ω1 (am_get ω1 l0.toNat 9).toNat l2.toNat)), some (.inl (am_get ω1 (am_get ω1 l0.toNat 10).toNat l2.toNat)), some (.inl (am_get ω1 (am_get ω1 l0.toNat 11).toNat l2.toNat)), some (.inl 0), none, none, none]) rfl rfl) ?_
      refine Eq.trans (rr_iconst rfl rfl) ?_
      refine Eq.trans (rr_istore (L' := [some (.inr (.inr l0)), some (.inl l1), some (.inl l2), some (.inl l3), some (.inl (am_get ω1 (am_get ω1 l0.toNat 8).toNat l1.toNat)), some (.inl (am_get ω1 (am_get ω1 l0.toNat 9).toNat l1.toNat)), some (.inl (am_get ω1 (am_get ω1 l0.toNat 10).toNat l1.toNat)), some (.inl (am_get ω1 (am_get ω1 l0.toNat 11).toNat l1.toNat)), some (.inl (am_get ω1 (am_get ω1 l0.toNat 8).toNat l2.toNat)), some (.inl (am_get ω1 (am_get ω1 l0.toNat 9).toNat l2.toNat)), some (.inl (am_get ω1 (am_get ω1 l0.toNat 10).toNat l2.toNat)), some (.inl (am_get ω1 (am_get ω1 l0.toNat 11).toNat l2.toNat)), some (.inl 0), some (.inl 0), none, none]) rfl rfl) ?_
      rfl
    · refine Eq.trans (rr_iconst rfl rfl) ?_
      exact rr_ireturn rfl rfl
  · refine Eq.trans (rr_iconst rfl rfl) ?_
    exact rr_ireturn rfl rfl
theorem pX7_tags_87 (lv : Nat) (l0 l1 l2 l3 l4 l5 l6 l7 l8 l9 l10 l11 l12 l13 : Int) (o14 o15 : Option am_V) (ω : am_W) (h1 : am_is ω l0 (7, 30) = true) : am_run (219, lv + 1) 87 ([some (.inr (.inr l0)), some (.inl l1), some (.inl l2), some (.inl l3), some (.inl l4), some (.inl l5), some (.inl l6), some (.inl l7), some (.inl l8), some (.inl l9), some (.inl l10), some (.inl l11), some (.inl l12), some (.inl l13), o14, o15], [], ω) = if 3 ≤ l13 then (if am_nar 4 l12 = true then (some (some (.inl l12), ω)) else none) else (if ¬ l12 = 0 then (if am_nar 4 l12 = true then (some (some (.inl l12), ω)) else none) else (am_bi (am_run (189, 0) 0 ([some (.inr (.inr l0)), some (.inl l1), some (.inl l13)], [], ω)) (fun z1 ω1 => if ¬ z1 = 0 then (am_run (219, lv + 1) 117 ([some (.inr (.inr l0)), some (.inl l1), some (.inl l2), some (.inl l3), some (.inl l4), some (.inl l5), some (.inl l6), some (.inl l7), some (.inl l8), some (.inl l9), some (.inl l10), some (.inl l11), some (.inl l12), some (.inl l13), some (.inl 1), some (.inl 0)], [], ω1)) else (am_run (219, lv + 1) 87 ([some (.inr (.inr l0)), some (.inl l1), some (.inl l2), some (.inl l3), some (.inl l4), some (.inl l5), some (.inl l6), some (.inl l7), some (.inl l8), some (.inl l9), some (.inl l10), some (.inl l11), some (.inl l12), some (.inl (am_w (l13 + 1))), o14, o15], [], ω1))))) := by
  refine Eq.trans (rr_iload rfl rfl) ?_
  refine Eq.trans (rr_iconst rfl rfl) ?_
  refine Eq.trans (rr_icmp_ge rfl rfl) (it_cg (fun _ => ?_) (fun _ => ?_))
  · refine Eq.trans (rr_iload rfl rfl) ?_
    exact ck_it (fun h => rr_ireturn rfl h) (fun h => rr_ireturn_no rfl h) (fun _ => rfl)
  · refine Eq.trans (rr_iload rfl rfl) ?_
    refine Eq.trans (rr_if_ne rfl rfl) (it_cg (fun _ => ?_) (fun _ => ?_))
    · refine Eq.trans (rr_iload rfl rfl) ?_
      exact ck_it (fun h => rr_ireturn rfl h) (fun h => rr_ireturn_no rfl h) (fun _ => rfl)
    · refine Eq.trans (rr_aload_n rfl rfl) ?_
      refine Eq.trans (rr_iload_n rfl rfl) ?_
      refine Eq.trans (rr_iload rfl rfl) ?_
      refine Eq.trans (rr_invV0i (S' := []) (L' := [some (.inr (.inr l0)), some (.inl l1), some (.inl l13)]) (m' := (189, 0)) rfl rfl rfl rfl (by rw [Bool.and_eq_true]; exact ⟨Nat.ble_eq_true_of_le (show (2 + 0) + 1 ≤ 4 + (lv + 1) by omega), rfl⟩) rfl h1) ?_
      refine bi_cg (fun z1 ω1 => ?_)
      refine Eq.trans (rr_if_ne rfl rfl) (it_cg (fun _ => ?_) (fun _ => ?_))
      · refine Eq.trans (rr_iconst rfl rfl) ?_
        refine Eq.trans (rr_istore (L' := [some (.inr (.inr l0)), some (.inl l1), some (.inl l2), some (.inl l3), some (.inl l4), some (.inl l5), some (.inl l6), some (.inl l7), some (.inl l8), some (.inl l9), some (.inl l10), some (.inl l11), some (.inl l12), some (.inl l13), some (.inl 1), o15]) rfl rfl) ?_
        refine Eq.trans (rr_iconst rfl rfl) ?_
        refine Eq.trans (rr_istore (L' := [some (.inr (.inr l0)), some (.inl l1), some (.inl l2), some (.inl l3), some (.inl l4), some (.inl l5), some (.inl l6), some (.inl l7), some (.inl l8), some (.inl l9), some (.inl l10), some (.inl l11), some (.inl l12), some (.inl l13), some (.inl 1), some (.inl 0)]) rfl rfl) ?_
        rfl
      · refine Eq.trans (rr_goto rfl rfl) ?_
        refine Eq.trans (rr_iinc (L' := [some (.inr (.inr l0)), some (.inl l1), some (.inl l2), some (.inl l3), some (.inl l4), some (.inl l5), some (.inl l6), some (.inl l7), some (.inl l8), some (.inl l9), some (.inl l10), some (.inl l11), some (.inl l12), some (.inl (am_w (l13 + 1))), o14, o15]) rfl rfl rfl) ?_
        refine Eq.trans (rr_goto rfl rfl) ?_
        rfl
theorem pX7_tags_117 (lv : Nat) (l0 l1 l2 l3 l4 l5 l6 l7 l8 l9 l10 l11 l12 l13 l14 l15 : Int) (ω : am_W) (h1 : am_is ω l0 (7, 30) = true) : am_run (219, lv + 1) 117 ([some (.inr (.inr l0)), some (.inl l1), some (.inl l2), some (.inl l3), some (.inl l4), some (.inl l5), some (.inl l6), some (.inl l7), some (.inl l8), some (.inl l9), some (.inl l10), some (.inl l11), some (.inl l12), some (.inl l13), some (.inl l14), some (.inl l15)], [], ω) = if 3 ≤ l15 then (am_run (219, lv + 1) 87 ([some (.inr (.inr l0)), some (.inl l1), some (.inl l2), some (.inl l3), some (.inl l4), some (.inl l5), some (.inl l6), some (.inl l7), some (.inl l8), some (.inl l9), some (.inl l10), some (.inl l11), some (.inl l14), some (.inl (am_w (l13 + 1))), some (.inl l14), some (.inl l15)], [], ω)) else (if l14 = 0 then (am_run (219, lv + 1) 87 ([some (.inr (.inr l0)), some (.inl l1), some (.inl l2), some (.inl l3), some (.inl l4), some (.inl l5), some (.inl l6), some (.inl l7), some (.inl l8), some (.inl l9), some (.inl l10), some (.inl l11), some (.inl l14), some (.inl (am_w (l13 + 1))), some (.inl l14), some (.inl l15)], [], ω)) else (am_bi (am_run (189, 0) 0 ([some (.inr (.inr l0)), some (.inl l2), some (.inl l15)], [], ω)) (fun z1 ω1 => if ¬ z1 = 0 then (if am_is ω1 l0 (7, 30) = true then (am_bv (am_run (191, 0) 0 ([some (.inr (.inr l0)), some (.inl l1), some (.inl l13)], [], ω1)) (fun ω2 => if am_is ω2 l0 (7, 30) = true then (am_bv (am_run (191, 0) 0 ([some (.inr (.inr l0)), some (.inl l2), some (.inl l15)], [], ω2)) (fun ω3 => if am_is ω3 l0 (7, 30) = true then (am_bv (am_run (182, 0) 0 ([some (.inr (.inr l0)), some (.inl l1)], [], ω3)) (fun ω4 => if am_is ω4 l0 (7, 30) = true then (am_bv (am_run (182, 0) 0 ([some (.inr (.inr l0)), some (.inl l2)], [], ω4)) (fun ω5 => if am_is ω5 l0 (7, 30) = true then (am_bi (am_run (219, lv) 0 ([some (.inr (.inr l0)), some (.inl l1), some (.inl l2), some (.inl (am_w (l3 - 1))), none, none, none, none, none, none, none, none, none, none, none, none], [], ω5)) (fun z6 ω6 => if am_is ω6 l0 (7, 30) = true then (if am_in ω6 (am_get ω6 l0.toNat 8) 100 l1 = true then (if am_in (am_put ω6 (am_get ω6 l0.toNat 8).toNat l1.toNat l4) (am_get (am_put ω6 (am_get ω6 l0.toNat 8).toNat l1.toNat l4) l0.toNat 9) 100 l1 = true then (am_run (219, lv + 1) 192 ([some (.inr (.inr l0)), some (.inl l1), some (.inl l2), some (.inl l3), some (.inl l4), some (.inl l5), some (.inl l6), some (.inl l7), some (.inl l8), some (.inl l9), some (.inl l10), some (.inl l11), some (.inl l12), some (.inl l13), some (.inl z6), some (.inl l15)], [], am_put (am_put ω6 (am_get ω6 l0.toNat 8).toNat l1.toNat l4) (am_get (am_put ω6 (am_get ω6 l0.toNat 8).toNat l1.toNat l4) l0.toNat 9).toNat l1.toNat l5)) else none) else none) else none)) else none)) else none)) else none)) else none)) else none) else (am_run (219, lv + 1) 240 ([some (.inr (.inr l0)), some (.inl l1), some (.inl l2), some (.inl l3), some (.inl l4), some (.inl l5), some (.inl l6), some (.inl l7), some (.inl l8), some (.inl l9), some (.inl l10), some (.inl l11), some (.inl l12), some (.inl l13), some (.inl l14), some (.inl l15)], [], ω1))))) := by
  refine Eq.trans (rr_iload rfl rfl) ?_
  refine Eq.trans (rr_iconst rfl rfl) ?_
  refine Eq.trans (rr_icmp_ge rfl rfl) (it_cg (fun _ => ?_) (fun _ => ?_))
  · refine Eq.trans (rr_iload rfl rfl) ?_
    refine Eq.trans (rr_istore (L' := [some (.inr (.inr l0)), some (.inl l1), some (.inl l2), some (.inl l3), some (.inl l4), some (.inl l5), some (.inl l6), some (.inl l7), some (.inl l8), some (.inl l9), some (.inl l10), some (.inl l11), some (.inl l14), some (.inl l13), some (.inl l14), some (.inl l15)]) rfl rfl) ?_
    refine Eq.trans (rr_iinc (L' := [some (.inr (.inr l0)), some (.inl l1), some (.inl l2), some (.inl l3), some (.inl l4), some (.inl l5), some (.inl l6), some (.inl l7), some (.inl l8), some (.inl l9), some (.inl l10), some (.inl l11), some (.inl l14), some (.inl (am_w (l13 + 1))), some (.inl l14), some (.inl l15)]) rfl rfl rfl) ?_
    refine Eq.trans (rr_goto rfl rfl) ?_
    rfl
  · refine Eq.trans (rr_iload rfl rfl) ?_
    refine Eq.trans (rr_if_eq rfl rfl) (it_cg (fun _ => ?_) (fun _ => ?_))
    · refine Eq.trans (rr_iload rfl rfl) ?_
      refine Eq.trans (rr_istore (L' := [some (.inr (.inr l0)), some (.inl l1), some (.inl l2), some (.inl l3), some (.inl l4), some (.inl l5), some (.inl l6), some (.inl l7), some (.inl l8), some (.inl l9), some (.inl l10), some (.inl l11), some (.inl l14), some (.inl l13), some (.inl l14), some (.inl l15)]) rfl rfl) ?_
      refine Eq.trans (rr_iinc (L' := [some (.inr (.inr l0)), some (.inl l1), some (.inl l2), some (.inl l3), some (.inl l4), some (.inl l5), some (.inl l6), some (.inl l7), some (.inl l8), some (.inl l9), some (.inl l10), some (.inl l11), some (.inl l14), some (.inl (am_w (l13 + 1))), some (.inl l14), some (.inl l15)]) rfl rfl rfl) ?_
      refine Eq.trans (rr_goto rfl rfl) ?_
      rfl
    · refine Eq.trans (rr_aload_n rfl rfl) ?_
      refine Eq.trans (rr_iload_n rfl rfl) ?_
      refine Eq.trans (rr_iload rfl rfl) ?_
      refine Eq.trans (rr_invV0i (S' := []) (L' := [some (.inr (.inr l0)), some (.inl l2), some (.inl l15)]) (m' := (189, 0)) rfl rfl rfl rfl (by rw [Bool.and_eq_true]; exact ⟨Nat.ble_eq_true_of_le (show (2 + 0) + 1 ≤ 4 + (lv + 1) by omega), rfl⟩) rfl h1) ?_
      refine bi_cg (fun z1 ω1 => ?_)
      refine Eq.trans (rr_if_ne rfl rfl) (it_cg (fun _ => ?_) (fun _ => ?_))
      · refine Eq.trans (rr_aload_n rfl rfl) ?_
        refine Eq.trans (rr_iload_n rfl rfl) ?_
        refine Eq.trans (rr_iload rfl rfl) ?_
        refine ck_it (fun h => rr_invV0v (S' := []) (L' := [some (.inr (.inr l0)), some (.inl l1), some (.inl l13)]) (m' := (191, 0)) rfl rfl rfl rfl (by rw [Bool.and_eq_true]; exact ⟨Nat.ble_eq_true_of_le (show (3 + 0) + 1 ≤ 4 + (lv + 1) by omega), rfl⟩) rfl h) (fun h => rr_invV0_no (S' := []) (L' := [some (.inr (.inr l0)), some (.inl l1), some (.inl l13)]) (m' := (191, 0)) rfl rfl rfl rfl (by rw [Bool.and_eq_true]; exact ⟨Nat.ble_eq_true_of_le (show (3 + 0) + 1 ≤ 4 + (lv + 1) by omega), rfl⟩) rfl h) (fun h2 => ?_)
        refine bv_cg (fun ω2 => ?_)
        refine Eq.trans (rr_aload_n rfl rfl) ?_
        refine Eq.trans (rr_iload_n rfl rfl) ?_
        refine Eq.trans (rr_iload rfl rfl) ?_
        refine ck_it (fun h => rr_invV0v (S' := []) (L' := [some (.inr (.inr l0)), some (.inl l2), some (.inl l15)]) (m' := (191, 0)) rfl rfl rfl rfl (by rw [Bool.and_eq_true]; exact ⟨Nat.ble_eq_true_of_le (show (3 + 0) + 1 ≤ 4 + (lv + 1) by omega), rfl⟩) rfl h) (fun h => rr_invV0_no (S' := []) (L' := [some (.inr (.inr l0)), some (.inl l2), some (.inl l15)]) (m' := (191, 0)) rfl rfl rfl rfl (by rw [Bool.and_eq_true]; exact ⟨Nat.ble_eq_true_of_le (show (3 + 0) + 1 ≤ 4 + (lv + 1) by omega), rfl⟩) rfl h) (fun h3 => ?_)
        refine bv_cg (fun ω3 => ?_)
        refine Eq.trans (rr_aload_n rfl rfl) ?_
        refine Eq.trans (rr_iload_n rfl rfl) ?_
        refine ck_it (fun h => rr_invV0v (S' := []) (L' := [some (.inr (.inr l0)), some (.inl l1)]) (m' := (182, 0)) rfl rfl rfl rfl (by rw [Bool.and_eq_true]; exact ⟨Nat.ble_eq_true_of_le (show (0 + 0) + 1 ≤ 4 + (lv + 1) by omega), rfl⟩) rfl h) (fun h => rr_invV0_no (S' := []) (L' := [some (.inr (.inr l0)), some (.inl l1)]) (m' := (182, 0)) rfl rfl rfl rfl (by rw [Bool.and_eq_true]; exact ⟨Nat.ble_eq_true_of_le (show (0 + 0) + 1 ≤ 4 + (lv + 1) by omega), rfl⟩) rfl h) (fun h4 => ?_)
        refine bv_cg (fun ω4 => ?_)
        refine Eq.trans (rr_aload_n rfl rfl) ?_
        refine Eq.trans (rr_iload_n rfl rfl) ?_
        refine ck_it (fun h => rr_invV0v (S' := []) (L' := [some (.inr (.inr l0)), some (.inl l2)]) (m' := (182, 0)) rfl rfl rfl rfl (by rw [Bool.and_eq_true]; exact ⟨Nat.ble_eq_true_of_le (show (0 + 0) + 1 ≤ 4 + (lv + 1) by omega), rfl⟩) rfl h) (fun h => rr_invV0_no (S' := []) (L' := [some (.inr (.inr l0)), some (.inl l2)]) (m' := (182, 0)) rfl rfl rfl rfl (by rw [Bool.and_eq_true]; exact ⟨Nat.ble_eq_true_of_le (show (0 + 0) + 1 ≤ 4 + (lv + 1) by omega), rfl⟩) rfl h) (fun h5 => ?_)
        refine bv_cg (fun ω5 => ?_)
        refine Eq.trans (rr_aload_n rfl rfl) ?_
        refine Eq.trans (rr_iload_n rfl rfl) ?_
        refine Eq.trans (rr_iload_n rfl rfl) ?_
        refine Eq.trans (rr_iload_n rfl rfl) ?_
        refine Eq.trans (rr_iconst rfl rfl) ?_
        refine Eq.trans (rr_isub rfl) ?_
        refine ck_it (fun h => rr_invV0i (S' := []) (L' := [some (.inr (.inr l0)), some (.inl l1), some (.inl l2), some (.inl (am_w (l3 - 1))), none, none, none, none, none, none, none, none, none, none, none, none]) (m' := (219, lv)) rfl rfl rfl rfl (by rw [Bool.and_eq_true]; exact ⟨Nat.ble_eq_true_of_le (show (4 + lv) + 1 ≤ 4 + (lv + 1) by omega), rfl⟩) rfl h) (fun h => rr_invV0_no (S' := []) (L' := [some (.inr (.inr l0)), some (.inl l1), some (.inl l2), some (.inl (am_w (l3 - 1))), none, none, none, none, none, none, none, none, none, none, none, none]) (m' := (219, lv)) rfl rfl rfl rfl (by rw [Bool.and_eq_true]; exact ⟨Nat.ble_eq_true_of_le (show (4 + lv) + 1 ≤ 4 + (lv + 1) by omega), rfl⟩) rfl h) (fun h6 => ?_)
        refine bi_cg (fun z6 ω6 => ?_)
        refine Eq.trans (rr_istore (L' := [some (.inr (.inr l0)), some (.inl l1), some (.inl l2), some (.inl l3), some (.inl l4), some (.inl l5), some (.inl l6), some (.inl l7), some (.inl l8), some (.inl l9), some (.inl l10), some (.inl l11), some (.inl l12), some (.inl l13), some (.inl z6), some (.inl l15)]) rfl rfl) ?_
        refine Eq.trans (rr_aload_n rfl rfl) ?_
        refine ck_it (fun h => rr_getfr rfl rfl rfl h) (fun h => rr_getfield_no rfl rfl h) (fun h7 => ?_)
        refine Eq.trans (rr_iload_n rfl rfl) ?_
        refine Eq.trans (rr_iload rfl rfl) ?_
        refine ck_it (fun h => rr_iastore rfl h) (fun h => rr_iastore_no rfl h) (fun h8 => ?_)
        refine Eq.trans (rr_aload_n rfl rfl) ?_
        refine Eq.trans (rr_getfr rfl rfl rfl h7) ?_
        refine Eq.trans (rr_iload_n rfl rfl) ?_
        refine Eq.trans (rr_iload rfl rfl) ?_
        refine ck_it (fun h => rr_iastore rfl h) (fun h => rr_iastore_no rfl h) (fun h9 => ?_)
        rfl
      · refine Eq.trans (rr_goto rfl rfl) ?_
        rfl
theorem pX7_tags_192 (lv : Nat) (l0 l1 l2 l3 l4 l5 l6 l7 l8 l9 l10 l11 l12 l13 l14 l15 : Int) (ω : am_W) (h1 : am_is ω l0 (7, 30) = true) : am_run (219, lv + 1) 192 ([some (.inr (.inr l0)), some (.inl l1), some (.inl l2), some (.inl l3), some (.inl l4), some (.inl l5), some (.inl l6), some (.inl l7), some (.inl l8), some (.inl l9), some (.inl l10), some (.inl l11), some (.inl l12), some (.inl l13), some (.inl l14), some (.inl l15)], [], ω) = if am_in ω (am_get ω l0.toNat 10) 100 l1 = true then (if am_in (am_put ω (am_get ω l0.toNat 10).toNat l1.toNat l6) (am_get (am_put ω (am_get ω l0.toNat 10).toNat l1.toNat l6) l0.toNat 11) 100 l1 = true then (am_run (219, lv + 1) 208 ([some (.inr (.inr l0)), some (.inl l1), some (.inl l2), some (.inl l3), some (.inl l4), some (.inl l5), some (.inl l6), some (.inl l7), some (.inl l8), some (.inl l9), some (.inl l10), some (.inl l11), some (.inl l12), some (.inl l13), some (.inl l14), some (.inl l15)], [], am_put (am_put ω (am_get ω l0.toNat 10).toNat l1.toNat l6) (am_get (am_put ω (am_get ω l0.toNat 10).toNat l1.toNat l6) l0.toNat 11).toNat l1.toNat l7)) else none) else none := by
  refine Eq.trans (rr_aload_n rfl rfl) ?_
  refine Eq.trans (rr_getfr rfl rfl rfl h1) ?_
  refine Eq.trans (rr_iload_n rfl rfl) ?_
  refine Eq.trans (rr_iload rfl rfl) ?_
  refine ck_it (fun h => rr_iastore rfl h) (fun h => rr_iastore_no rfl h) (fun h2 => ?_)
  refine Eq.trans (rr_aload_n rfl rfl) ?_
  refine Eq.trans (rr_getfr rfl rfl rfl h1) ?_
  refine Eq.trans (rr_iload_n rfl rfl) ?_
  refine Eq.trans (rr_iload rfl rfl) ?_
  refine ck_it (fun h => rr_iastore rfl h) (fun h => rr_iastore_no rfl h) (fun h3 => ?_)
  rfl
theorem pX7_tags_208 (lv : Nat) (l0 l1 l2 l3 l4 l5 l6 l7 l8 l9 l10 l11 l12 l13 l14 l15 : Int) (ω : am_W) (h1 : am_is ω l0 (7, 30) = true) : am_run (219, lv + 1) 208 ([some (.inr (.inr l0)), some (.inl l1), some (.inl l2), some (.inl l3), some (.inl l4), some (.inl l5), some (.inl l6), some (.inl l7), some (.inl l8), some (.inl l9), some (.inl l10), some (.inl l11), some (.inl l12), some (.inl l13), some (.inl l14), some (.inl l15)], [], ω) = if am_in ω (am_get ω l0.toNat 8) 100 l2 = true then (if am_in (am_put ω (am_get ω l0.toNat 8).toNat l2.toNat l8) (am_get (am_put ω (am_get ω l0.toNat 8).toNat l2.toNat l8) l0.toNat 9) 100 l2 = true then (am_run (219, lv + 1) 224 ([some (.inr (.inr l0)), some (.inl l1), some (.inl l2), some (.inl l3), some (.inl l4), some (.inl l5), some (.inl l6), some (.inl l7), some (.inl l8), some (.inl l9), some (.inl l10), some (.inl l11), some (.inl l12), some (.inl l13), some (.inl l14), some (.inl l15)], [], am_put (am_put ω (am_get ω l0.toNat 8).toNat l2.toNat l8) (am_get (am_put ω (am_get ω l0.toNat 8).toNat l2.toNat l8) l0.toNat 9).toNat l2.toNat l9)) else none) else none := by
  refine Eq.trans (rr_aload_n rfl rfl) ?_
  refine Eq.trans (rr_getfr rfl rfl rfl h1) ?_
  refine Eq.trans (rr_iload_n rfl rfl) ?_
  refine Eq.trans (rr_iload rfl rfl) ?_
  refine ck_it (fun h => rr_iastore rfl h) (fun h => rr_iastore_no rfl h) (fun h2 => ?_)
  refine Eq.trans (rr_aload_n rfl rfl) ?_
  refine Eq.trans (rr_getfr rfl rfl rfl h1) ?_
  refine Eq.trans (rr_iload_n rfl rfl) ?_
  refine Eq.trans (rr_iload rfl rfl) ?_
  refine ck_it (fun h => rr_iastore rfl h) (fun h => rr_iastore_no rfl h) (fun h3 => ?_)
  rfl
theorem pX7_tags_224 (lv : Nat) (l0 l1 l2 l3 l4 l5 l6 l7 l8 l9 l10 l11 l12 l13 l14 l15 : Int) (ω : am_W) (h1 : am_is ω l0 (7, 30) = true) : am_run (219, lv + 1) 224 ([some (.inr (.inr l0)), some (.inl l1), some (.inl l2), some (.inl l3), some (.inl l4), some (.inl l5), some (.inl l6), some (.inl l7), some (.inl l8), some (.inl l9), some (.inl l10), some (.inl l11), some (.inl l12), some (.inl l13), some (.inl l14), some (.inl l15)], [], ω) = if am_in ω (am_get ω l0.toNat 10) 100 l2 = true then (if am_in (am_put ω (am_get ω l0.toNat 10).toNat l2.toNat l10) (am_get (am_put ω (am_get ω l0.toNat 10).toNat l2.toNat l10) l0.toNat 11) 100 l2 = true then (am_run (219, lv + 1) 240 ([some (.inr (.inr l0)), some (.inl l1), some (.inl l2), some (.inl l3), some (.inl l4), some (.inl l5), some (.inl l6), some (.inl l7), some (.inl l8), some (.inl l9), some (.inl l10), some (.inl l11), some (.inl l12), some (.inl l13), some (.inl l14), some (.inl l15)], [], am_put (am_put ω (am_get ω l0.toNat 10).toNat l2.toNat l10) (am_get (am_put ω (am_get ω l0.toNat 10).toNat l2.toNat l10) l0.toNat 11).toNat l2.toNat l11)) else none) else none := by
  refine Eq.trans (rr_aload_n rfl rfl) ?_
  refine Eq.trans (rr_getfr rfl rfl rfl h1) ?_
  refine Eq.trans (rr_iload_n rfl rfl) ?_
  refine Eq.trans (rr_iload rfl rfl) ?_
  refine ck_it (fun h => rr_iastore rfl h) (fun h => rr_iastore_no rfl h) (fun h2 => ?_)
  refine Eq.trans (rr_aload_n rfl rfl) ?_
  refine Eq.trans (rr_getfr rfl rfl rfl h1) ?_
  refine Eq.trans (rr_iload_n rfl rfl) ?_
  refine Eq.trans (rr_iload rfl rfl) ?_
  refine ck_it (fun h => rr_iastore rfl h) (fun h => rr_iastore_no rfl h) (fun h3 => ?_)
  rfl
theorem pX7_tags_240 (lv : Nat) (l0 l1 l2 l3 l4 l5 l6 l7 l8 l9 l10 l11 l12 l13 l14 l15 : Int) (ω : am_W) : am_run (219, lv + 1) 240 ([some (.inr (.inr l0)), some (.inl l1), some (.inl l2), some (.inl l3), some (.inl l4), some (.inl l5), some (.inl l6), some (.inl l7), some (.inl l8), some (.inl l9), some (.inl l10), some (.inl l11), some (.inl l12), some (.inl l13), some (.inl l14), some (.inl l15)], [], ω) = am_run (219, lv + 1) 117 ([some (.inr (.inr l0)), some (.inl l1), some (.inl l2), some (.inl l3), some (.inl l4), some (.inl l5), some (.inl l6), some (.inl l7), some (.inl l8), some (.inl l9), some (.inl l10), some (.inl l11), some (.inl l12), some (.inl l13), some (.inl l14), some (.inl (am_w (l15 + 1)))], [], ω) := by
  refine Eq.trans (rr_iinc (L' := [some (.inr (.inr l0)), some (.inl l1), some (.inl l2), some (.inl l3), some (.inl l4), some (.inl l5), some (.inl l6), some (.inl l7), some (.inl l8), some (.inl l9), some (.inl l10), some (.inl l11), some (.inl l12), some (.inl l13), some (.inl l14), some (.inl (am_w (l15 + 1)))]) rfl rfl rfl) ?_
  refine Eq.trans (rr_goto rfl rfl) ?_
  rfl
theorem pX7_tag_0 (l0 l1 l2 l3 : Int) (ω : am_W) (h1 : am_is ω l0 (7, 30) = true) : am_run (220, 0) 0 ([some (.inr (.inr l0)), some (.inl l1), some (.inl l2), some (.inl l3)], [], ω) = am_bi (am_run (152, 0) 0 ([some (.inr (.inr l0)), some (.inl l1), some (.inl l2)], [], ω)) (fun z1 ω1 => if z1 = 0 then (if am_is ω1 l0 (7, 30) = true then (am_bi (am_run (148, 0) 0 ([some (.inr (.inr l0)), some (.inl ((-2)))], [], ω1)) (fun z2 ω2 => some (some (.inl z2), ω2))) else none) else (am_bi (am_run (149, 0) 0 ([some (.inl l3), some (.inl 0), some (.inl 5)], [], ω1)) (fun z3 ω3 => if ¬ z3 = 0 then (if am_is ω3 l0 (7, 30) = true then (am_bi (am_run (219, 12) 0 ([some (.inr (.inr l0)), some (.inl l1), some (.inl l2), some (.inl l3), none, none, none, none, none, none, none, none, none, none, none, none], [], ω3)) (fun z4 ω4 => if z4 = 0 then (some (some (.inl 0), ω4)) else (some (some (.inl 1), ω4)))) else none) else (if am_is ω3 l0 (7, 30) = true then (am_bi (am_run (148, 0) 0 ([some (.inr (.inr l0)), some (.inl ((-2)))], [], ω3)) (fun z5 ω5 => some (some (.inl z5), ω5))) else none)))) := by
  refine Eq.trans (rr_aload_n rfl rfl) ?_
  refine Eq.trans (rr_iload_n rfl rfl) ?_
  refine Eq.trans (rr_iload_n rfl rfl) ?_
  refine Eq.trans (rr_invV0i (S' := []) (L' := [some (.inr (.inr l0)), some (.inl l1), some (.inl l2)]) (m' := (152, 0)) rfl rfl rfl rfl rfl rfl h1) ?_
  refine bi_cg (fun z1 ω1 => ?_)
  refine Eq.trans (rr_if_eq rfl rfl) (it_cg (fun _ => ?_) (fun _ => ?_))
  · refine Eq.trans (rr_aload_n rfl rfl) ?_
    refine Eq.trans (rr_bipush rfl rfl) ?_
    refine ck_it (fun h => rr_invV0i (S' := []) (L' := [some (.inr (.inr l0)), some (.inl ((-2)))]) (m' := (148, 0)) rfl rfl rfl rfl rfl rfl h) (fun h => rr_invV0_no (S' := []) (L' := [some (.inr (.inr l0)), some (.inl ((-2)))]) (m' := (148, 0)) rfl rfl rfl rfl rfl rfl h) (fun h2 => ?_)
    refine bi_cg (fun z2 ω2 => ?_)
    exact rr_ireturn rfl rfl
  · refine Eq.trans (rr_iload_n rfl rfl) ?_
    refine Eq.trans (rr_iconst rfl rfl) ?_
    refine Eq.trans (rr_iconst rfl rfl) ?_
    refine Eq.trans (rr_invS2i (S' := []) (L' := [some (.inl l3), some (.inl 0), some (.inl 5)]) (m' := (149, 0)) rfl rfl rfl rfl rfl rfl) ?_
    refine bi_cg (fun z3 ω3 => ?_)
    refine Eq.trans (rr_if_ne rfl rfl) (it_cg (fun _ => ?_) (fun _ => ?_))
    · refine Eq.trans (rr_aload_n rfl rfl) ?_
      refine Eq.trans (rr_iload_n rfl rfl) ?_
      refine Eq.trans (rr_iload_n rfl rfl) ?_
      refine Eq.trans (rr_iload_n rfl rfl) ?_
      refine ck_it (fun h => rr_invV0i (S' := []) (L' := [some (.inr (.inr l0)), some (.inl l1), some (.inl l2), some (.inl l3), none, none, none, none, none, none, none, none, none, none, none, none]) (m' := (219, 12)) rfl rfl rfl rfl rfl rfl h) (fun h => rr_invV0_no (S' := []) (L' := [some (.inr (.inr l0)), some (.inl l1), some (.inl l2), some (.inl l3), none, none, none, none, none, none, none, none, none, none, none, none]) (m' := (219, 12)) rfl rfl rfl rfl rfl rfl h) (fun h3 => ?_)
      refine bi_cg (fun z4 ω4 => ?_)
      refine Eq.trans (rr_if_eq rfl rfl) (it_cg (fun _ => ?_) (fun _ => ?_))
      · refine Eq.trans (rr_iconst rfl rfl) ?_
        exact rr_ireturn rfl rfl
      · refine Eq.trans (rr_iconst rfl rfl) ?_
        refine Eq.trans (rr_goto rfl rfl) ?_
        exact rr_ireturn rfl rfl
    · refine Eq.trans (rr_aload_n rfl rfl) ?_
      refine Eq.trans (rr_bipush rfl rfl) ?_
      refine ck_it (fun h => rr_invV0i (S' := []) (L' := [some (.inr (.inr l0)), some (.inl ((-2)))]) (m' := (148, 0)) rfl rfl rfl rfl rfl rfl h) (fun h => rr_invV0_no (S' := []) (L' := [some (.inr (.inr l0)), some (.inl ((-2)))]) (m' := (148, 0)) rfl rfl rfl rfl rfl rfl h) (fun h4 => ?_)
      refine bi_cg (fun z5 ω5 => ?_)
      exact rr_ireturn rfl rfl
theorem pX7_steps_0 (l0 l1 : Int) (ω : am_W) (h1 : am_is ω l0 (7, 30) = true) : am_run (221, 0) 0 ([some (.inr (.inr l0)), some (.inl l1), none, none, none, none], [], ω) = am_run (221, 0) 7 ([some (.inr (.inr l0)), some (.inl l1), some (.inl (am_get ω l0.toNat 13)), some (.inl 0), none, none], [], ω) := by
  refine Eq.trans (rr_aload_n rfl rfl) ?_
  refine Eq.trans (rr_getfi rfl rfl rfl h1) ?_
  refine Eq.trans (rr_istore_n (L' := [some (.inr (.inr l0)), some (.inl l1), some (.inl (am_get ω l0.toNat 13)), none, none, none]) rfl rfl) ?_
  refine Eq.trans (rr_iconst rfl rfl) ?_
  refine Eq.trans (rr_istore_n (L' := [some (.inr (.inr l0)), some (.inl l1), some (.inl (am_get ω l0.toNat 13)), some (.inl 0), none, none]) rfl rfl) ?_
  rfl
theorem pX7_steps_7 (l0 l1 l2 l3 : Int) (o4 o5 : Option am_V) (ω : am_W) (h1 : am_is ω l0 (7, 30) = true) : am_run (221, 0) 7 ([some (.inr (.inr l0)), some (.inl l1), some (.inl l2), some (.inl l3), o4, o5], [], ω) = if l1 ≤ l3 then (some (some (.inl (am_w ((am_get (am_put ω l0.toNat 12 (am_w ((am_get ω l0.toNat 12) + l1))) l0.toNat 13) - l2))), am_put ω l0.toNat 12 (am_w ((am_get ω l0.toNat 12) + l1)))) else (am_run (221, 0) 15 ([some (.inr (.inr l0)), some (.inl l1), some (.inl l2), some (.inl l3), some (.inl 0), o5], [], ω)) := by
  refine Eq.trans (rr_iload_n rfl rfl) ?_
  refine Eq.trans (rr_iload_n rfl rfl) ?_
  refine Eq.trans (rr_icmp_ge rfl rfl) (it_cg (fun _ => ?_) (fun _ => ?_))
  · refine Eq.trans (rr_aload_n rfl rfl) ?_
    refine Eq.trans (rr_dupr rfl) ?_
    refine Eq.trans (rr_getfi rfl rfl rfl h1) ?_
    refine Eq.trans (rr_iload_n rfl rfl) ?_
    refine Eq.trans (rr_iadd rfl) ?_
    refine Eq.trans (rr_putfieldi rfl rfl rfl h1) ?_
    refine Eq.trans (rr_aload_n rfl rfl) ?_
    refine Eq.trans (rr_getfi rfl rfl rfl h1) ?_
    refine Eq.trans (rr_iload_n rfl rfl) ?_
    refine Eq.trans (rr_isub rfl) ?_
    exact rr_ireturn rfl rfl
  · refine Eq.trans (rr_iconst rfl rfl) ?_
    refine Eq.trans (rr_istore (L' := [some (.inr (.inr l0)), some (.inl l1), some (.inl l2), some (.inl l3), some (.inl 0), o5]) rfl rfl) ?_
    rfl
theorem pX7_steps_15 (l0 l1 l2 l3 l4 : Int) (o5 : Option am_V) (ω : am_W) (h1 : am_is ω l0 (7, 30) = true) : am_run (221, 0) 15 ([some (.inr (.inr l0)), some (.inl l1), some (.inl l2), some (.inl l3), some (.inl l4), o5], [], ω) = if (am_get ω l0.toNat 6) ≤ l4 then (am_run (221, 0) 39 ([some (.inr (.inr l0)), some (.inl l1), some (.inl l2), some (.inl l3), some (.inl 0), o5], [], ω)) else (am_bv (am_run (182, 0) 0 ([some (.inr (.inr l0)), some (.inl l4)], [], ω)) (fun ω1 => am_run (221, 0) 15 ([some (.inr (.inr l0)), some (.inl l1), some (.inl l2), some (.inl l3), some (.inl (am_w (l4 + 1))), o5], [], ω1))) := by
  refine Eq.trans (rr_iload rfl rfl) ?_
  refine Eq.trans (rr_aload_n rfl rfl) ?_
  refine Eq.trans (rr_getfi rfl rfl rfl h1) ?_
  refine Eq.trans (rr_icmp_ge rfl rfl) (it_cg (fun _ => ?_) (fun _ => ?_))
  · refine Eq.trans (rr_iconst rfl rfl) ?_
    refine Eq.trans (rr_istore (L' := [some (.inr (.inr l0)), some (.inl l1), some (.inl l2), some (.inl l3), some (.inl 0), o5]) rfl rfl) ?_
    rfl
  · refine Eq.trans (rr_aload_n rfl rfl) ?_
    refine Eq.trans (rr_iload rfl rfl) ?_
    refine Eq.trans (rr_invV0v (S' := []) (L' := [some (.inr (.inr l0)), some (.inl l4)]) (m' := (182, 0)) rfl rfl rfl rfl rfl rfl h1) ?_
    refine bv_cg (fun ω1 => ?_)
    refine Eq.trans (rr_iinc (L' := [some (.inr (.inr l0)), some (.inl l1), some (.inl l2), some (.inl l3), some (.inl (am_w (l4 + 1))), o5]) rfl rfl rfl) ?_
    refine Eq.trans (rr_goto rfl rfl) ?_
    rfl
theorem pX7_steps_39 (l0 l1 l2 l3 l4 : Int) (o5 : Option am_V) (ω : am_W) (h1 : am_is ω l0 (7, 30) = true) : am_run (221, 0) 39 ([some (.inr (.inr l0)), some (.inl l1), some (.inl l2), some (.inl l3), some (.inl l4), o5], [], ω) = if (am_get ω l0.toNat 6) ≤ l4 then (am_run (221, 0) 7 ([some (.inr (.inr l0)), some (.inl l1), some (.inl l2), some (.inl (am_w (l3 + 1))), some (.inl l4), o5], [], ω)) else (am_run (221, 0) 51 ([some (.inr (.inr l0)), some (.inl l1), some (.inl l2), some (.inl l3), some (.inl l4), some (.inl 0)], [], ω)) := by
  refine Eq.trans (rr_iload rfl rfl) ?_
  refine Eq.trans (rr_aload_n rfl rfl) ?_
  refine Eq.trans (rr_getfi rfl rfl rfl h1) ?_
  refine Eq.trans (rr_icmp_ge rfl rfl) (it_cg (fun _ => ?_) (fun _ => ?_))
  · refine Eq.trans (rr_iinc (L' := [some (.inr (.inr l0)), some (.inl l1), some (.inl l2), some (.inl (am_w (l3 + 1))), some (.inl l4), o5]) rfl rfl rfl) ?_
    refine Eq.trans (rr_goto rfl rfl) ?_
    rfl
  · refine Eq.trans (rr_iconst rfl rfl) ?_
    refine Eq.trans (rr_istore (L' := [some (.inr (.inr l0)), some (.inl l1), some (.inl l2), some (.inl l3), some (.inl l4), some (.inl 0)]) rfl rfl) ?_
    rfl
theorem pX7_steps_51 (l0 l1 l2 l3 l4 l5 : Int) (ω : am_W) (h1 : am_is ω l0 (7, 30) = true) : am_run (221, 0) 51 ([some (.inr (.inr l0)), some (.inl l1), some (.inl l2), some (.inl l3), some (.inl l4), some (.inl l5)], [], ω) = if l4 ≤ l5 then (am_run (221, 0) 39 ([some (.inr (.inr l0)), some (.inl l1), some (.inl l2), some (.inl l3), some (.inl (am_w (l4 + 1))), some (.inl l5)], [], ω)) else (if am_in ω (am_get ω l0.toNat 7) 100 l4 = true then (if (am_get ω (am_get ω l0.toNat 7).toNat l4.toNat) = 3 then (am_bi (am_run (183, 0) 0 ([some (.inr (.inr l0)), some (.inl l4), some (.inl l5)], [], ω)) (fun z1 ω1 => if z1 = 0 then (am_run (221, 0) 51 ([some (.inr (.inr l0)), some (.inl l1), some (.inl l2), some (.inl l3), some (.inl l4), some (.inl (am_w (l5 + 1)))], [], ω1)) else (if am_is ω1 l0 (7, 30) = true then (am_run (221, 0) 51 ([some (.inr (.inr l0)), some (.inl l1), some (.inl l2), some (.inl l3), some (.inl l4), some (.inl (am_w (l5 + 1)))], [], am_put ω1 l0.toNat 13 (am_w ((am_get ω1 l0.toNat 13) + 1)))) else none))) else (if am_in ω (am_get ω l0.toNat 7) 100 l5 = true then (if ¬ (am_get ω (am_get ω l0.toNat 7).toNat l5.toNat) = 3 then (am_run (221, 0) 51 ([some (.inr (.inr l0)), some (.inl l1), some (.inl l2), some (.inl l3), some (.inl l4), some (.inl (am_w (l5 + 1)))], [], ω)) else (am_bi (am_run (183, 0) 0 ([some (.inr (.inr l0)), some (.inl l4), some (.inl l5)], [], ω)) (fun z2 ω2 => if z2 = 0 then (am_run (221, 0) 51 ([some (.inr (.inr l0)), some (.inl l1), some (.inl l2), some (.inl l3), some (.inl l4), some (.inl (am_w (l5 + 1)))], [], ω2)) else (if am_is ω2 l0 (7, 30) = true then (am_run (221, 0) 51 ([some (.inr (.inr l0)), some (.inl l1), some (.inl l2), some (.inl l3), some (.inl l4), some (.inl (am_w (l5 + 1)))], [], am_put ω2 l0.toNat 13 (am_w ((am_get ω2 l0.toNat 13) + 1)))) else none)))) else none)) else none) := by
  refine Eq.trans (rr_iload rfl rfl) ?_
  refine Eq.trans (rr_iload rfl rfl) ?_
  refine Eq.trans (rr_icmp_ge rfl rfl) (it_cg (fun _ => ?_) (fun _ => ?_))
  · refine Eq.trans (rr_iinc (L' := [some (.inr (.inr l0)), some (.inl l1), some (.inl l2), some (.inl l3), some (.inl (am_w (l4 + 1))), some (.inl l5)]) rfl rfl rfl) ?_
    refine Eq.trans (rr_goto rfl rfl) ?_
    rfl
  · refine Eq.trans (rr_aload_n rfl rfl) ?_
    refine Eq.trans (rr_getfr rfl rfl rfl h1) ?_
    refine Eq.trans (rr_iload rfl rfl) ?_
    refine ck_it (fun h => rr_iaload rfl rfl h) (fun h => rr_iaload_no rfl rfl h) (fun h2 => ?_)
    refine Eq.trans (rr_iconst rfl rfl) ?_
    refine Eq.trans (rr_icmp_eq rfl rfl) (it_cg (fun _ => ?_) (fun _ => ?_))
    · refine Eq.trans (rr_aload_n rfl rfl) ?_
      refine Eq.trans (rr_iload rfl rfl) ?_
      refine Eq.trans (rr_iload rfl rfl) ?_
      refine Eq.trans (rr_invV0i (S' := []) (L' := [some (.inr (.inr l0)), some (.inl l4), some (.inl l5)]) (m' := (183, 0)) rfl rfl rfl rfl rfl rfl h1) ?_
      refine bi_cg (fun z1 ω1 => ?_)
      refine Eq.trans (rr_if_eq rfl rfl) (it_cg (fun _ => ?_) (fun _ => ?_))
      · refine Eq.trans (rr_iinc (L' := [some (.inr (.inr l0)), some (.inl l1), some (.inl l2), some (.inl l3), some (.inl l4), some (.inl (am_w (l5 + 1)))]) rfl rfl rfl) ?_
        refine Eq.trans (rr_goto rfl rfl) ?_
        rfl
      · refine Eq.trans (rr_aload_n rfl rfl) ?_
        refine Eq.trans (rr_dupr rfl) ?_
        refine ck_it (fun h => rr_getfi rfl rfl rfl h) (fun h => rr_getfield_no rfl rfl h) (fun h3 => ?_)
        refine Eq.trans (rr_iconst rfl rfl) ?_
        refine Eq.trans (rr_iadd rfl) ?_
        refine Eq.trans (rr_putfieldi rfl rfl rfl h3) ?_
        refine Eq.trans (rr_iinc (L' := [some (.inr (.inr l0)), some (.inl l1), some (.inl l2), some (.inl l3), some (.inl l4), some (.inl (am_w (l5 + 1)))]) rfl rfl rfl) ?_
        refine Eq.trans (rr_goto rfl rfl) ?_
        rfl
    · refine Eq.trans (rr_aload_n rfl rfl) ?_
      refine Eq.trans (rr_getfr rfl rfl rfl h1) ?_
      refine Eq.trans (rr_iload rfl rfl) ?_
      refine ck_it (fun h => rr_iaload rfl rfl h) (fun h => rr_iaload_no rfl rfl h) (fun h4 => ?_)
      refine Eq.trans (rr_iconst rfl rfl) ?_
      refine Eq.trans (rr_icmp_ne rfl rfl) (it_cg (fun _ => ?_) (fun _ => ?_))
      · refine Eq.trans (rr_iinc (L' := [some (.inr (.inr l0)), some (.inl l1), some (.inl l2), some (.inl l3), some (.inl l4), some (.inl (am_w (l5 + 1)))]) rfl rfl rfl) ?_
        refine Eq.trans (rr_goto rfl rfl) ?_
        rfl
      · refine Eq.trans (rr_aload_n rfl rfl) ?_
        refine Eq.trans (rr_iload rfl rfl) ?_
        refine Eq.trans (rr_iload rfl rfl) ?_
        refine Eq.trans (rr_invV0i (S' := []) (L' := [some (.inr (.inr l0)), some (.inl l4), some (.inl l5)]) (m' := (183, 0)) rfl rfl rfl rfl rfl rfl h1) ?_
        refine bi_cg (fun z2 ω2 => ?_)
        refine Eq.trans (rr_if_eq rfl rfl) (it_cg (fun _ => ?_) (fun _ => ?_))
        · refine Eq.trans (rr_iinc (L' := [some (.inr (.inr l0)), some (.inl l1), some (.inl l2), some (.inl l3), some (.inl l4), some (.inl (am_w (l5 + 1)))]) rfl rfl rfl) ?_
          refine Eq.trans (rr_goto rfl rfl) ?_
          rfl
        · refine Eq.trans (rr_aload_n rfl rfl) ?_
          refine Eq.trans (rr_dupr rfl) ?_
          refine ck_it (fun h => rr_getfi rfl rfl rfl h) (fun h => rr_getfield_no rfl rfl h) (fun h5 => ?_)
          refine Eq.trans (rr_iconst rfl rfl) ?_
          refine Eq.trans (rr_iadd rfl) ?_
          refine Eq.trans (rr_putfieldi rfl rfl rfl h5) ?_
          refine Eq.trans (rr_iinc (L' := [some (.inr (.inr l0)), some (.inl l1), some (.inl l2), some (.inl l3), some (.inl l4), some (.inl (am_w (l5 + 1)))]) rfl rfl rfl) ?_
          refine Eq.trans (rr_goto rfl rfl) ?_
          rfl
theorem pX7_step_0 (l0 l1 : Int) (ω : am_W) : am_run (222, 0) 0 ([some (.inr (.inr l0)), some (.inl l1)], [], ω) = am_bi (am_run (149, 0) 0 ([some (.inl l1), some (.inl 1), some (.inl 60)], [], ω)) (fun z1 ω1 => if z1 = 0 then (if am_is ω1 l0 (7, 30) = true then (am_bi (am_run (148, 0) 0 ([some (.inr (.inr l0)), some (.inl ((-2)))], [], ω1)) (fun z2 ω2 => some (some (.inl z2), ω2))) else none) else (if am_is ω1 l0 (7, 30) = true then (am_bi (am_run (221, 0) 0 ([some (.inr (.inr l0)), some (.inl l1), none, none, none, none], [], ω1)) (fun z3 ω3 => some (some (.inl z3), ω3))) else none)) := by
  refine Eq.trans (rr_iload_n rfl rfl) ?_
  refine Eq.trans (rr_iconst rfl rfl) ?_
  refine Eq.trans (rr_bipush rfl rfl) ?_
  refine Eq.trans (rr_invS2i (S' := []) (L' := [some (.inl l1), some (.inl 1), some (.inl 60)]) (m' := (149, 0)) rfl rfl rfl rfl rfl rfl) ?_
  refine bi_cg (fun z1 ω1 => ?_)
  refine Eq.trans (rr_if_eq rfl rfl) (it_cg (fun _ => ?_) (fun _ => ?_))
  · refine Eq.trans (rr_aload_n rfl rfl) ?_
    refine Eq.trans (rr_bipush rfl rfl) ?_
    refine ck_it (fun h => rr_invV0i (S' := []) (L' := [some (.inr (.inr l0)), some (.inl ((-2)))]) (m' := (148, 0)) rfl rfl rfl rfl rfl rfl h) (fun h => rr_invV0_no (S' := []) (L' := [some (.inr (.inr l0)), some (.inl ((-2)))]) (m' := (148, 0)) rfl rfl rfl rfl rfl rfl h) (fun h1 => ?_)
    refine bi_cg (fun z2 ω2 => ?_)
    exact rr_ireturn rfl rfl
  · refine Eq.trans (rr_aload_n rfl rfl) ?_
    refine Eq.trans (rr_iload_n rfl rfl) ?_
    refine ck_it (fun h => rr_invV0i (S' := []) (L' := [some (.inr (.inr l0)), some (.inl l1), none, none, none, none]) (m' := (221, 0)) rfl rfl rfl rfl rfl rfl h) (fun h => rr_invV0_no (S' := []) (L' := [some (.inr (.inr l0)), some (.inl l1), none, none, none, none]) (m' := (221, 0)) rfl rfl rfl rfl rfl rfl h) (fun h2 => ?_)
    refine bi_cg (fun z3 ω3 => ?_)
    refine Eq.trans (rr_goto rfl rfl) ?_
    exact rr_ireturn rfl rfl
theorem pX7_change_0 (l0 l1 l2 : Int) (ω : am_W) (h1 : am_is ω l0 (7, 30) = true) : am_run (223, 0) 0 ([some (.inr (.inr l0)), some (.inl l1), some (.inl l2), none], [], ω) = am_bi (am_run (151, 0) 0 ([some (.inr (.inr l0)), some (.inl l1)], [], ω)) (fun z1 ω1 => if z1 = 0 then (if am_is ω1 l0 (7, 30) = true then (am_bi (am_run (148, 0) 0 ([some (.inr (.inr l0)), some (.inl ((-2)))], [], ω1)) (fun z2 ω2 => some (some (.inl z2), ω2))) else none) else (am_bi (am_run (149, 0) 0 ([some (.inl l2), some (.inl 1), some (.inl 2)], [], ω1)) (fun z3 ω3 => if ¬ z3 = 0 then (if am_is ω3 l0 (7, 30) = true then (am_bi (am_run (189, 0) 0 ([some (.inr (.inr l0)), some (.inl l1), some (.inl l2)], [], ω3)) (fun z4 ω4 => if ¬ z4 = 0 then (if am_is ω4 l0 (7, 30) = true then (am_bi (am_run (188, 0) 0 ([some (.inr (.inr l0)), some (.inl l1), some (.inl l2)], [], ω4)) (fun z5 ω5 => if am_is ω5 l0 (7, 30) = true then (am_bv (am_run (191, 0) 0 ([some (.inr (.inr l0)), some (.inl l1), some (.inl l2)], [], ω5)) (fun ω6 => some (some (.inl z5), ω6))) else none)) else none) else (if am_is ω4 l0 (7, 30) = true then (am_bi (am_run (148, 0) 0 ([some (.inr (.inr l0)), some (.inl ((-5)))], [], ω4)) (fun z7 ω7 => some (some (.inl z7), ω7))) else none))) else none) else (if am_is ω3 l0 (7, 30) = true then (am_bi (am_run (148, 0) 0 ([some (.inr (.inr l0)), some (.inl ((-2)))], [], ω3)) (fun z8 ω8 => some (some (.inl z8), ω8))) else none)))) := by
  refine Eq.trans (rr_aload_n rfl rfl) ?_
  refine Eq.trans (rr_iload_n rfl rfl) ?_
  refine Eq.trans (rr_invV0i (S' := []) (L' := [some (.inr (.inr l0)), some (.inl l1)]) (m' := (151, 0)) rfl rfl rfl rfl rfl rfl h1) ?_
  refine bi_cg (fun z1 ω1 => ?_)
  refine Eq.trans (rr_if_eq rfl rfl) (it_cg (fun _ => ?_) (fun _ => ?_))
  · refine Eq.trans (rr_aload_n rfl rfl) ?_
    refine Eq.trans (rr_bipush rfl rfl) ?_
    refine ck_it (fun h => rr_invV0i (S' := []) (L' := [some (.inr (.inr l0)), some (.inl ((-2)))]) (m' := (148, 0)) rfl rfl rfl rfl rfl rfl h) (fun h => rr_invV0_no (S' := []) (L' := [some (.inr (.inr l0)), some (.inl ((-2)))]) (m' := (148, 0)) rfl rfl rfl rfl rfl rfl h) (fun h2 => ?_)
    refine bi_cg (fun z2 ω2 => ?_)
    exact rr_ireturn rfl rfl
  · refine Eq.trans (rr_iload_n rfl rfl) ?_
    refine Eq.trans (rr_iconst rfl rfl) ?_
    refine Eq.trans (rr_iconst rfl rfl) ?_
    refine Eq.trans (rr_invS2i (S' := []) (L' := [some (.inl l2), some (.inl 1), some (.inl 2)]) (m' := (149, 0)) rfl rfl rfl rfl rfl rfl) ?_
    refine bi_cg (fun z3 ω3 => ?_)
    refine Eq.trans (rr_if_ne rfl rfl) (it_cg (fun _ => ?_) (fun _ => ?_))
    · refine Eq.trans (rr_aload_n rfl rfl) ?_
      refine Eq.trans (rr_iload_n rfl rfl) ?_
      refine Eq.trans (rr_iload_n rfl rfl) ?_
      refine ck_it (fun h => rr_invV0i (S' := []) (L' := [some (.inr (.inr l0)), some (.inl l1), some (.inl l2)]) (m' := (189, 0)) rfl rfl rfl rfl rfl rfl h) (fun h => rr_invV0_no (S' := []) (L' := [some (.inr (.inr l0)), some (.inl l1), some (.inl l2)]) (m' := (189, 0)) rfl rfl rfl rfl rfl rfl h) (fun h3 => ?_)
      refine bi_cg (fun z4 ω4 => ?_)
      refine Eq.trans (rr_if_ne rfl rfl) (it_cg (fun _ => ?_) (fun _ => ?_))
      · refine Eq.trans (rr_aload_n rfl rfl) ?_
        refine Eq.trans (rr_iload_n rfl rfl) ?_
        refine Eq.trans (rr_iload_n rfl rfl) ?_
        refine ck_it (fun h => rr_invV0i (S' := []) (L' := [some (.inr (.inr l0)), some (.inl l1), some (.inl l2)]) (m' := (188, 0)) rfl rfl rfl rfl rfl rfl h) (fun h => rr_invV0_no (S' := []) (L' := [some (.inr (.inr l0)), some (.inl l1), some (.inl l2)]) (m' := (188, 0)) rfl rfl rfl rfl rfl rfl h) (fun h4 => ?_)
        refine bi_cg (fun z5 ω5 => ?_)
        refine Eq.trans (rr_istore_n (L' := [some (.inr (.inr l0)), some (.inl l1), some (.inl l2), some (.inl z5)]) rfl rfl) ?_
        refine Eq.trans (rr_aload_n rfl rfl) ?_
        refine Eq.trans (rr_iload_n rfl rfl) ?_
        refine Eq.trans (rr_iload_n rfl rfl) ?_
        refine ck_it (fun h => rr_invV0v (S' := []) (L' := [some (.inr (.inr l0)), some (.inl l1), some (.inl l2)]) (m' := (191, 0)) rfl rfl rfl rfl rfl rfl h) (fun h => rr_invV0_no (S' := []) (L' := [some (.inr (.inr l0)), some (.inl l1), some (.inl l2)]) (m' := (191, 0)) rfl rfl rfl rfl rfl rfl h) (fun h5 => ?_)
        refine bv_cg (fun ω6 => ?_)
        refine Eq.trans (rr_iload_n rfl rfl) ?_
        exact rr_ireturn rfl rfl
      · refine Eq.trans (rr_aload_n rfl rfl) ?_
        refine Eq.trans (rr_bipush rfl rfl) ?_
        refine ck_it (fun h => rr_invV0i (S' := []) (L' := [some (.inr (.inr l0)), some (.inl ((-5)))]) (m' := (148, 0)) rfl rfl rfl rfl rfl rfl h) (fun h => rr_invV0_no (S' := []) (L' := [some (.inr (.inr l0)), some (.inl ((-5)))]) (m' := (148, 0)) rfl rfl rfl rfl rfl rfl h) (fun h6 => ?_)
        refine bi_cg (fun z7 ω7 => ?_)
        exact rr_ireturn rfl rfl
    · refine Eq.trans (rr_aload_n rfl rfl) ?_
      refine Eq.trans (rr_bipush rfl rfl) ?_
      refine ck_it (fun h => rr_invV0i (S' := []) (L' := [some (.inr (.inr l0)), some (.inl ((-2)))]) (m' := (148, 0)) rfl rfl rfl rfl rfl rfl h) (fun h => rr_invV0_no (S' := []) (L' := [some (.inr (.inr l0)), some (.inl ((-2)))]) (m' := (148, 0)) rfl rfl rfl rfl rfl rfl h) (fun h7 => ?_)
      refine bi_cg (fun z8 ω8 => ?_)
      exact rr_ireturn rfl rfl
theorem pX7_hand_0 (l0 l1 l2 l3 : Int) (ω : am_W) (h1 : am_is ω l0 (7, 30) = true) : am_run (224, 0) 0 ([some (.inr (.inr l0)), some (.inl l1), some (.inl l2), some (.inl l3)], [], ω) = am_bi (am_run (152, 0) 0 ([some (.inr (.inr l0)), some (.inl l1), some (.inl l2)], [], ω)) (fun z1 ω1 => if z1 = 0 then (if am_is ω1 l0 (7, 30) = true then (am_bi (am_run (148, 0) 0 ([some (.inr (.inr l0)), some (.inl ((-2)))], [], ω1)) (fun z2 ω2 => some (some (.inl z2), ω2))) else none) else (am_bi (am_run (149, 0) 0 ([some (.inl l3), some (.inl 1), some (.inl 99)], [], ω1)) (fun z3 ω3 => if ¬ z3 = 0 then (if am_is ω3 l0 (7, 30) = true then (if am_in ω3 (am_get ω3 l0.toNat 7) 100 l1 = true then (if ¬ (am_get ω3 (am_get ω3 l0.toNat 7).toNat l1.toNat) = 5 then (am_bi (am_run (148, 0) 0 ([some (.inr (.inr l0)), some (.inl ((-5)))], [], ω3)) (fun z4 ω4 => some (some (.inl z4), ω4))) else (am_bi (am_run (183, 0) 0 ([some (.inr (.inr l0)), some (.inl l1), some (.inl l2)], [], ω3)) (fun z5 ω5 => if z5 = 0 then (if am_is ω5 l0 (7, 30) = true then (am_bi (am_run (148, 0) 0 ([some (.inr (.inr l0)), some (.inl ((-5)))], [], ω5)) (fun z6 ω6 => some (some (.inl z6), ω6))) else none) else (if am_is ω5 l0 (7, 30) = true then (if am_in ω5 (am_get ω5 l0.toNat 10) 100 l1 = true then (if (am_get ω5 (am_get ω5 l0.toNat 10).toNat l1.toNat) < l3 then (am_bi (am_run (148, 0) 0 ([some (.inr (.inr l0)), some (.inl ((-5)))], [], ω5)) (fun z7 ω7 => some (some (.inl z7), ω7))) else (if am_in ω5 (am_get ω5 l0.toNat 10) 100 l2 = true then (if (am_w ((am_get ω5 (am_get ω5 l0.toNat 10).toNat l2.toNat) + l3)) ≤ 99 then (if am_in (am_put ω5 (am_get ω5 l0.toNat 10).toNat l1.toNat (am_w ((am_get ω5 (am_get ω5 l0.toNat 10).toNat l1.toNat) - l3))) (am_get (am_put ω5 (am_get ω5 l0.toNat 10).toNat l1.toNat (am_w ((am_get ω5 (am_get ω5 l0.toNat 10).toNat l1.toNat) - l3))) l0.toNat 10) 100 l2 = true then (if am_in (am_put (am_put ω5 (am_get ω5 l0.toNat 10).toNat l1.toNat (am_w ((am_get ω5 (am_get ω5 l0.toNat 10).toNat l1.toNat) - l3))) (am_get (am_put ω5 (am_get ω5 l0.toNat 10).toNat l1.toNat (am_w ((am_get ω5 (am_get ω5 l0.toNat 10).toNat l1.toNat) - l3))) l0.toNat 10).toNat l2.toNat (am_w ((am_get (am_put ω5 (am_get ω5 l0.toNat 10).toNat l1.toNat (am_w ((am_get ω5 (am_get ω5 l0.toNat 10).toNat l1.toNat) - l3))) (am_get (am_put ω5 (am_get ω5 l0.toNat 10).toNat l1.toNat (am_w ((am_get ω5 (am_get ω5 l0.toNat 10).toNat l1.toNat) - l3))) l0.toNat 10).toNat l2.toNat) + l3))) (am_get (am_put (am_put ω5 (am_get ω5 l0.toNat 10).toNat l1.toNat (am_w ((am_get ω5 (am_get ω5 l0.toNat 10).toNat l1.toNat) - l3))) (am_get (am_put ω5 (am_get ω5 l0.toNat 10).toNat l1.toNat (am_w ((am_get ω5 (am_get ω5 l0.toNat 10).toNat l1.toNat) - l3))) l0.toNat 10).toNat l2.toNat (am_w ((am_get (am_put ω5 (am_get ω5 l0.toNat 10).toNat l1.toNat (am_w ((am_get ω5 (am_get ω5 l0.toNat 10).toNat l1.toNat) - l3))) (am_get (am_put ω5 (am_get ω5 l0.toNat 10).toNat l1.toNat (am_w ((am_get ω5 (am_get ω5 l0.toNat 10).toNat l1.toNat) - l3))) l0.toNat 10).toNat l2.toNat) + l3))) l0.toNat 10) 100 l2 = true then (some (some (.inl (am_get (am_put (am_put ω5 (am_get ω5 l0.toNat 10).toNat l1.toNat (am_w ((am_get ω5 (am_get ω5 l0.toNat 10).toNat l1.toNat) - l3))) (am_get (am_put ω5 (am_get ω5 l0.toNat 10).toNat l1.toNat (am_w ((am_get ω5 (am_get ω5 l0.toNat 10).toNat l1.toNat) - l3))) l0.toNat 10).toNat l2.toNat (am_w ((am_get (am_put ω5 (am_get ω5 l0.toNat 10).toNat l1.toNat (am_w ((am_get ω5 (am_get ω5 l0.toNat 10).toNat l1.toNat) - l3))) (am_get (am_put ω5 (am_get ω5 l0.toNat 10).toNat l1.toNat (am_w ((am_get ω5 (am_get ω5 l0.toNat 10).toNat l1.toNat) - l3))) l0.toNat 10).toNat l2.toNat) + l3))) (am_get (am_put (am_put ω5 (am_get ω5 l0.toNat 10).toNat l1.toNat (am_w ((am_get ω5 (am_get ω5 l0.toNat 10).toNat l1.toNat) - l3))) (am_get (am_put ω5 (am_get ω5 l0.toNat 10).toNat l1.toNat (am_w ((am_get ω5 (am_get ω5 l0.toNat 10).toNat l1.toNat) - l3))) l0.toNat 10).toNat l2.toNat (am_w ((am_get (am_put ω5 (am_get ω5 l0.toNat 10).toNat l1.toNat (am_w ((am_get ω5 (am_get ω5 l0.toNat 10).toNat l1.toNat) - l3))) (am_get (am_put ω5 (am_get ω5 l0.toNat 10).toNat l1.toNat (am_w ((am_get ω5 (am_get ω5 l0.toNat 10).toNat l1.toNat) - l3))) l0.toNat 10).toNat l2.toNat) + l3))) l0.toNat 10).toNat l2.toNat)), am_put (am_put ω5 (am_get ω5 l0.toNat 10).toNat l1.toNat (am_w ((am_get ω5 (am_get ω5 l0.toNat 10).toNat l1.toNat) - l3))) (am_get (am_put ω5 (am_get ω5 l0.toNat 10).toNat l1.toNat (am_w ((am_get ω5 (am_get ω5 l0.toNat 10).toNat l1.toNat) - l3))) l0.toNat 10).toNat l2.toNat (am_w ((am_get (am_put ω5 (am_get ω5 l0.toNat 10).toNat l1.toNat (am_w ((am_get ω5 (am_get ω5 l0.toNat 10).toNat l1.toNat) - l3))) (am_get (am_put ω5 (am_get ω5 l0.toNat 10).toNat l1.toNat (am_w ((am_get ω5 (am_get ω5 l0.toNat 10).toNat l1.toNat) - l3))) l0.toNat 10).toNat l2.toNat) + l3)))) else none) else none) else (am_bi (am_run (148, 0) 0 ([some (.inr (.inr l0)), some (.inl ((-5)))], [], ω5)) (fun z8 ω8 => some (some (.inl z8), ω8)))) else none)) else none) else none)))) else none) else none) else (if am_is ω3 l0 (7, 30) = true then (am_bi (am_run (148, 0) 0 ([some (.inr (.inr l0)), some (.inl ((-2)))], [], ω3)) (fun z9 ω9 => some (some (.inl z9), ω9))) else none)))) := by
  refine Eq.trans (rr_aload_n rfl rfl) ?_
  refine Eq.trans (rr_iload_n rfl rfl) ?_
  refine Eq.trans (rr_iload_n rfl rfl) ?_
  refine Eq.trans (rr_invV0i (S' := []) (L' := [some (.inr (.inr l0)), some (.inl l1), some (.inl l2)]) (m' := (152, 0)) rfl rfl rfl rfl rfl rfl h1) ?_
  refine bi_cg (fun z1 ω1 => ?_)
  refine Eq.trans (rr_if_eq rfl rfl) (it_cg (fun _ => ?_) (fun _ => ?_))
  · refine Eq.trans (rr_aload_n rfl rfl) ?_
    refine Eq.trans (rr_bipush rfl rfl) ?_
    refine ck_it (fun h => rr_invV0i (S' := []) (L' := [some (.inr (.inr l0)), some (.inl ((-2)))]) (m' := (148, 0)) rfl rfl rfl rfl rfl rfl h) (fun h => rr_invV0_no (S' := []) (L' := [some (.inr (.inr l0)), some (.inl ((-2)))]) (m' := (148, 0)) rfl rfl rfl rfl rfl rfl h) (fun h2 => ?_)
    refine bi_cg (fun z2 ω2 => ?_)
    exact rr_ireturn rfl rfl
  · refine Eq.trans (rr_iload_n rfl rfl) ?_
    refine Eq.trans (rr_iconst rfl rfl) ?_
    refine Eq.trans (rr_bipush rfl rfl) ?_
    refine Eq.trans (rr_invS2i (S' := []) (L' := [some (.inl l3), some (.inl 1), some (.inl 99)]) (m' := (149, 0)) rfl rfl rfl rfl rfl rfl) ?_
    refine bi_cg (fun z3 ω3 => ?_)
    refine Eq.trans (rr_if_ne rfl rfl) (it_cg (fun _ => ?_) (fun _ => ?_))
    · refine Eq.trans (rr_aload_n rfl rfl) ?_
      refine ck_it (fun h => rr_getfr rfl rfl rfl h) (fun h => rr_getfield_no rfl rfl h) (fun h3 => ?_)
      refine Eq.trans (rr_iload_n rfl rfl) ?_
      refine ck_it (fun h => rr_iaload rfl rfl h) (fun h => rr_iaload_no rfl rfl h) (fun h4 => ?_)
      refine Eq.trans (rr_iconst rfl rfl) ?_
      refine Eq.trans (rr_icmp_ne rfl rfl) (it_cg (fun _ => ?_) (fun _ => ?_))
      · refine Eq.trans (rr_aload_n rfl rfl) ?_
        refine Eq.trans (rr_bipush rfl rfl) ?_
        refine Eq.trans (rr_invV0i (S' := []) (L' := [some (.inr (.inr l0)), some (.inl ((-5)))]) (m' := (148, 0)) rfl rfl rfl rfl rfl rfl h3) ?_
        refine bi_cg (fun z4 ω4 => ?_)
        exact rr_ireturn rfl rfl
      · refine Eq.trans (rr_aload_n rfl rfl) ?_
        refine Eq.trans (rr_iload_n rfl rfl) ?_
        refine Eq.trans (rr_iload_n rfl rfl) ?_
        refine Eq.trans (rr_invV0i (S' := []) (L' := [some (.inr (.inr l0)), some (.inl l1), some (.inl l2)]) (m' := (183, 0)) rfl rfl rfl rfl rfl rfl h3) ?_
        refine bi_cg (fun z5 ω5 => ?_)
        refine Eq.trans (rr_if_eq rfl rfl) (it_cg (fun _ => ?_) (fun _ => ?_))
        · refine Eq.trans (rr_aload_n rfl rfl) ?_
          refine Eq.trans (rr_bipush rfl rfl) ?_
          refine ck_it (fun h => rr_invV0i (S' := []) (L' := [some (.inr (.inr l0)), some (.inl ((-5)))]) (m' := (148, 0)) rfl rfl rfl rfl rfl rfl h) (fun h => rr_invV0_no (S' := []) (L' := [some (.inr (.inr l0)), some (.inl ((-5)))]) (m' := (148, 0)) rfl rfl rfl rfl rfl rfl h) (fun h5 => ?_)
          refine bi_cg (fun z6 ω6 => ?_)
          exact rr_ireturn rfl rfl
        · refine Eq.trans (rr_aload_n rfl rfl) ?_
          refine ck_it (fun h => rr_getfr rfl rfl rfl h) (fun h => rr_getfield_no rfl rfl h) (fun h6 => ?_)
          refine Eq.trans (rr_iload_n rfl rfl) ?_
          refine ck_it (fun h => rr_iaload rfl rfl h) (fun h => rr_iaload_no rfl rfl h) (fun h7 => ?_)
          refine Eq.trans (rr_iload_n rfl rfl) ?_
          refine Eq.trans (rr_icmp_lt rfl rfl) (it_cg (fun _ => ?_) (fun _ => ?_))
          · refine Eq.trans (rr_aload_n rfl rfl) ?_
            refine Eq.trans (rr_bipush rfl rfl) ?_
            refine Eq.trans (rr_invV0i (S' := []) (L' := [some (.inr (.inr l0)), some (.inl ((-5)))]) (m' := (148, 0)) rfl rfl rfl rfl rfl rfl h6) ?_
            refine bi_cg (fun z7 ω7 => ?_)
            exact rr_ireturn rfl rfl
          · refine Eq.trans (rr_aload_n rfl rfl) ?_
            refine Eq.trans (rr_getfr rfl rfl rfl h6) ?_
            refine Eq.trans (rr_iload_n rfl rfl) ?_
            refine ck_it (fun h => rr_iaload rfl rfl h) (fun h => rr_iaload_no rfl rfl h) (fun h8 => ?_)
            refine Eq.trans (rr_iload_n rfl rfl) ?_
            refine Eq.trans (rr_iadd rfl) ?_
            refine Eq.trans (rr_bipush rfl rfl) ?_
            refine Eq.trans (rr_icmp_le rfl rfl) (it_cg (fun _ => ?_) (fun _ => ?_))
            · refine Eq.trans (rr_aload_n rfl rfl) ?_
              refine Eq.trans (rr_getfr rfl rfl rfl h6) ?_
              refine Eq.trans (rr_iload_n rfl rfl) ?_
              refine Eq.trans (rr_dup2 rfl) ?_
              refine Eq.trans (rr_iaload rfl rfl h7) ?_
              refine Eq.trans (rr_iload_n rfl rfl) ?_
              refine Eq.trans (rr_isub rfl) ?_
              refine Eq.trans (rr_iastore rfl h7) ?_
              refine Eq.trans (rr_aload_n rfl rfl) ?_
              refine Eq.trans (rr_getfr rfl rfl rfl h6) ?_
              refine Eq.trans (rr_iload_n rfl rfl) ?_
              refine Eq.trans (rr_dup2 rfl) ?_
              refine ck_it (fun h => rr_iaload rfl rfl h) (fun h => rr_iaload_no rfl rfl h) (fun h9 => ?_)
              refine Eq.trans (rr_iload_n rfl rfl) ?_
              refine Eq.trans (rr_iadd rfl) ?_
              refine Eq.trans (rr_iastore rfl h9) ?_
              refine Eq.trans (rr_aload_n rfl rfl) ?_
              refine Eq.trans (rr_getfr rfl rfl rfl h6) ?_
              refine Eq.trans (rr_iload_n rfl rfl) ?_
              refine ck_it (fun h => rr_iaload rfl rfl h) (fun h => rr_iaload_no rfl rfl h) (fun h10 => ?_)
              exact rr_ireturn rfl rfl
            · refine Eq.trans (rr_aload_n rfl rfl) ?_
              refine Eq.trans (rr_bipush rfl rfl) ?_
              refine Eq.trans (rr_invV0i (S' := []) (L' := [some (.inr (.inr l0)), some (.inl ((-5)))]) (m' := (148, 0)) rfl rfl rfl rfl rfl rfl h6) ?_
              refine bi_cg (fun z8 ω8 => ?_)
              exact rr_ireturn rfl rfl
    · refine Eq.trans (rr_aload_n rfl rfl) ?_
      refine Eq.trans (rr_bipush rfl rfl) ?_
      refine ck_it (fun h => rr_invV0i (S' := []) (L' := [some (.inr (.inr l0)), some (.inl ((-2)))]) (m' := (148, 0)) rfl rfl rfl rfl rfl rfl h) (fun h => rr_invV0_no (S' := []) (L' := [some (.inr (.inr l0)), some (.inl ((-2)))]) (m' := (148, 0)) rfl rfl rfl rfl rfl rfl h) (fun h11 => ?_)
      refine bi_cg (fun z9 ω9 => ?_)
      exact rr_ireturn rfl rfl
theorem pX7_hurl_0 (l0 l1 l2 l3 : Int) (ω : am_W) (h1 : am_is ω l0 (7, 30) = true) : am_run (225, 0) 0 ([some (.inr (.inr l0)), some (.inl l1), some (.inl l2), some (.inl l3), none, none], [], ω) = am_bi (am_run (152, 0) 0 ([some (.inr (.inr l0)), some (.inl l1), some (.inl l2)], [], ω)) (fun z1 ω1 => if z1 = 0 then (if am_is ω1 l0 (7, 30) = true then (am_bi (am_run (148, 0) 0 ([some (.inr (.inr l0)), some (.inl ((-2)))], [], ω1)) (fun z2 ω2 => some (some (.inl z2), ω2))) else none) else (am_bi (am_run (149, 0) 0 ([some (.inl l3), some (.inl 1), some (.inl 2)], [], ω1)) (fun z3 ω3 => if ¬ z3 = 0 then (if am_is ω3 l0 (7, 30) = true then (if am_in ω3 (am_get ω3 l0.toNat 7) 100 l2 = true then (if (am_get ω3 (am_get ω3 l0.toNat 7).toNat l2.toNat) = 2 then (am_run (225, 0) 45 ([some (.inr (.inr l0)), some (.inl l1), some (.inl l2), some (.inl l3), none, none], [], ω3)) else (if ¬ (am_get ω3 (am_get ω3 l0.toNat 7).toNat l2.toNat) = 3 then (am_run (225, 0) 50 ([some (.inr (.inr l0)), some (.inl l1), some (.inl l2), some (.inl l3), none, none], [.inl 0], ω3)) else (am_run (225, 0) 45 ([some (.inr (.inr l0)), some (.inl l1), some (.inl l2), some (.inl l3), none, none], [], ω3)))) else none) else none) else (if am_is ω3 l0 (7, 30) = true then (am_bi (am_run (148, 0) 0 ([some (.inr (.inr l0)), some (.inl ((-2)))], [], ω3)) (fun z4 ω4 => some (some (.inl z4), ω4))) else none)))) := by
  refine Eq.trans (rr_aload_n rfl rfl) ?_
  refine Eq.trans (rr_iload_n rfl rfl) ?_
  refine Eq.trans (rr_iload_n rfl rfl) ?_
  refine Eq.trans (rr_invV0i (S' := []) (L' := [some (.inr (.inr l0)), some (.inl l1), some (.inl l2)]) (m' := (152, 0)) rfl rfl rfl rfl rfl rfl h1) ?_
  refine bi_cg (fun z1 ω1 => ?_)
  refine Eq.trans (rr_if_eq rfl rfl) (it_cg (fun _ => ?_) (fun _ => ?_))
  · refine Eq.trans (rr_aload_n rfl rfl) ?_
    refine Eq.trans (rr_bipush rfl rfl) ?_
    refine ck_it (fun h => rr_invV0i (S' := []) (L' := [some (.inr (.inr l0)), some (.inl ((-2)))]) (m' := (148, 0)) rfl rfl rfl rfl rfl rfl h) (fun h => rr_invV0_no (S' := []) (L' := [some (.inr (.inr l0)), some (.inl ((-2)))]) (m' := (148, 0)) rfl rfl rfl rfl rfl rfl h) (fun h2 => ?_)
    refine bi_cg (fun z2 ω2 => ?_)
    exact rr_ireturn rfl rfl
  · refine Eq.trans (rr_iload_n rfl rfl) ?_
    refine Eq.trans (rr_iconst rfl rfl) ?_
    refine Eq.trans (rr_iconst rfl rfl) ?_
    refine Eq.trans (rr_invS2i (S' := []) (L' := [some (.inl l3), some (.inl 1), some (.inl 2)]) (m' := (149, 0)) rfl rfl rfl rfl rfl rfl) ?_
    refine bi_cg (fun z3 ω3 => ?_)
    refine Eq.trans (rr_if_ne rfl rfl) (it_cg (fun _ => ?_) (fun _ => ?_))
    · refine Eq.trans (rr_aload_n rfl rfl) ?_
      refine ck_it (fun h => rr_getfr rfl rfl rfl h) (fun h => rr_getfield_no rfl rfl h) (fun h3 => ?_)
      refine Eq.trans (rr_iload_n rfl rfl) ?_
      refine ck_it (fun h => rr_iaload rfl rfl h) (fun h => rr_iaload_no rfl rfl h) (fun h4 => ?_)
      refine Eq.trans (rr_iconst rfl rfl) ?_
      refine Eq.trans (rr_icmp_eq rfl rfl) (it_cg (fun _ => ?_) (fun _ => ?_))
      · rfl
      · refine Eq.trans (rr_aload_n rfl rfl) ?_
        refine Eq.trans (rr_getfr rfl rfl rfl h3) ?_
        refine Eq.trans (rr_iload_n rfl rfl) ?_
        refine Eq.trans (rr_iaload rfl rfl h4) ?_
        refine Eq.trans (rr_iconst rfl rfl) ?_
        refine Eq.trans (rr_icmp_ne rfl rfl) (it_cg (fun _ => ?_) (fun _ => ?_))
        · refine Eq.trans (rr_iconst rfl rfl) ?_
          rfl
        · rfl
    · refine Eq.trans (rr_aload_n rfl rfl) ?_
      refine Eq.trans (rr_bipush rfl rfl) ?_
      refine ck_it (fun h => rr_invV0i (S' := []) (L' := [some (.inr (.inr l0)), some (.inl ((-2)))]) (m' := (148, 0)) rfl rfl rfl rfl rfl rfl h) (fun h => rr_invV0_no (S' := []) (L' := [some (.inr (.inr l0)), some (.inl ((-2)))]) (m' := (148, 0)) rfl rfl rfl rfl rfl rfl h) (fun h5 => ?_)
      refine bi_cg (fun z4 ω4 => ?_)
      exact rr_ireturn rfl rfl
theorem pX7_hurl_45 (l0 l1 l2 l3 : Int) (o4 o5 : Option am_V) (ω : am_W) : am_run (225, 0) 45 ([some (.inr (.inr l0)), some (.inl l1), some (.inl l2), some (.inl l3), o4, o5], [], ω) = am_run (225, 0) 50 ([some (.inr (.inr l0)), some (.inl l1), some (.inl l2), some (.inl l3), o4, o5], [.inl 1], ω) := by
  refine Eq.trans (rr_iconst rfl rfl) ?_
  refine Eq.trans (rr_goto rfl rfl) ?_
  rfl
theorem pX7_hurl_50 (l0 l1 l2 l3 s0 : Int) (o4 o5 : Option am_V) (ω : am_W) (h1 : am_is ω l0 (7, 30) = true) : am_run (225, 0) 50 ([some (.inr (.inr l0)), some (.inl l1), some (.inl l2), some (.inl l3), o4, o5], [.inl s0], ω) = if am_in ω (am_get ω l0.toNat 7) 100 l1 = true then (if (am_get ω (am_get ω l0.toNat 7).toNat l1.toNat) = 2 then (am_run (225, 0) 76 ([some (.inr (.inr l0)), some (.inl l1), some (.inl l2), some (.inl l3), some (.inl s0), o5], [], ω)) else (if (am_get ω (am_get ω l0.toNat 7).toNat l1.toNat) = 3 then (am_run (225, 0) 76 ([some (.inr (.inr l0)), some (.inl l1), some (.inl l2), some (.inl l3), some (.inl s0), o5], [], ω)) else (am_run (225, 0) 77 ([some (.inr (.inr l0)), some (.inl l1), some (.inl l2), some (.inl l3), some (.inl s0), o5], [.inl 1], ω)))) else none := by
  refine Eq.trans (rr_istore (L' := [some (.inr (.inr l0)), some (.inl l1), some (.inl l2), some (.inl l3), some (.inl s0), o5]) rfl rfl) ?_
  refine Eq.trans (rr_aload_n rfl rfl) ?_
  refine Eq.trans (rr_getfr rfl rfl rfl h1) ?_
  refine Eq.trans (rr_iload_n rfl rfl) ?_
  refine ck_it (fun h => rr_iaload rfl rfl h) (fun h => rr_iaload_no rfl rfl h) (fun h2 => ?_)
  refine Eq.trans (rr_iconst rfl rfl) ?_
  refine Eq.trans (rr_icmp_eq rfl rfl) (it_cg (fun _ => ?_) (fun _ => ?_))
  · rfl
  · refine Eq.trans (rr_aload_n rfl rfl) ?_
    refine Eq.trans (rr_getfr rfl rfl rfl h1) ?_
    refine Eq.trans (rr_iload_n rfl rfl) ?_
    refine Eq.trans (rr_iaload rfl rfl h2) ?_
    refine Eq.trans (rr_iconst rfl rfl) ?_
    refine Eq.trans (rr_icmp_eq rfl rfl) (it_cg (fun _ => ?_) (fun _ => ?_))
    · rfl
    · refine Eq.trans (rr_iconst rfl rfl) ?_
      refine Eq.trans (rr_goto rfl rfl) ?_
      rfl
theorem pX7_hurl_76 (l0 l1 l2 l3 l4 : Int) (o5 : Option am_V) (ω : am_W) : am_run (225, 0) 76 ([some (.inr (.inr l0)), some (.inl l1), some (.inl l2), some (.inl l3), some (.inl l4), o5], [], ω) = am_run (225, 0) 77 ([some (.inr (.inr l0)), some (.inl l1), some (.inl l2), some (.inl l3), some (.inl l4), o5], [.inl 0], ω) := by
  refine Eq.trans (rr_iconst rfl rfl) ?_
  rfl
theorem pX7_hurl_77 (l0 l1 l2 l3 l4 s0 : Int) (o5 : Option am_V) (ω : am_W) (h1 : am_is ω l0 (7, 30) = true) : am_run (225, 0) 77 ([some (.inr (.inr l0)), some (.inl l1), some (.inl l2), some (.inl l3), some (.inl l4), o5], [.inl s0], ω) = if l4 = 0 then (am_bi (am_run (148, 0) 0 ([some (.inr (.inr l0)), some (.inl ((-5)))], [], ω)) (fun z1 ω1 => some (some (.inl z1), ω1))) else (if s0 = 0 then (am_bi (am_run (148, 0) 0 ([some (.inr (.inr l0)), some (.inl ((-5)))], [], ω)) (fun z2 ω2 => some (some (.inl z2), ω2))) else (am_bi (am_run (183, 0) 0 ([some (.inr (.inr l0)), some (.inl l1), some (.inl l2)], [], ω)) (fun z3 ω3 => if z3 = 0 then (if am_is ω3 l0 (7, 30) = true then (am_bi (am_run (148, 0) 0 ([some (.inr (.inr l0)), some (.inl ((-5)))], [], ω3)) (fun z4 ω4 => some (some (.inl z4), ω4))) else none) else (if am_is ω3 l0 (7, 30) = true then (if am_in ω3 (am_get ω3 l0.toNat 10) 100 l1 = true then (if (am_get ω3 (am_get ω3 l0.toNat 10).toNat l1.toNat) = 0 then (am_bi (am_run (148, 0) 0 ([some (.inr (.inr l0)), some (.inl ((-5)))], [], ω3)) (fun z5 ω5 => some (some (.inl z5), ω5))) else (if ¬ l3 = 1 then (if am_in ω3 (am_get ω3 l0.toNat 8) 100 l2 = true then (am_run (225, 0) 132 ([some (.inr (.inr l0)), some (.inl l1), some (.inl l2), some (.inl l3), some (.inl l4), some (.inl s0)], [.inl (am_w ((am_get ω3 (am_get ω3 l0.toNat 8).toNat l2.toNat) - 1)), .inr (.inr l0)], ω3)) else none) else (if am_in ω3 (am_get ω3 l0.toNat 8) 100 l2 = true then (am_run (225, 0) 132 ([some (.inr (.inr l0)), some (.inl l1), some (.inl l2), some (.inl l3), some (.inl l4), some (.inl s0)], [.inl (am_w ((am_get ω3 (am_get ω3 l0.toNat 8).toNat l2.toNat) + 1)), .inr (.inr l0)], ω3)) else none))) else none) else none)))) := by
  refine Eq.trans (rr_istore (L' := [some (.inr (.inr l0)), some (.inl l1), some (.inl l2), some (.inl l3), some (.inl l4), some (.inl s0)]) rfl rfl) ?_
  refine Eq.trans (rr_iload rfl rfl) ?_
  refine Eq.trans (rr_if_eq rfl rfl) (it_cg (fun _ => ?_) (fun _ => ?_))
  · refine Eq.trans (rr_aload_n rfl rfl) ?_
    refine Eq.trans (rr_bipush rfl rfl) ?_
    refine Eq.trans (rr_invV0i (S' := []) (L' := [some (.inr (.inr l0)), some (.inl ((-5)))]) (m' := (148, 0)) rfl rfl rfl rfl rfl rfl h1) ?_
    refine bi_cg (fun z1 ω1 => ?_)
    exact rr_ireturn rfl rfl
  · refine Eq.trans (rr_iload rfl rfl) ?_
    refine Eq.trans (rr_if_eq rfl rfl) (it_cg (fun _ => ?_) (fun _ => ?_))
    · refine Eq.trans (rr_aload_n rfl rfl) ?_
      refine Eq.trans (rr_bipush rfl rfl) ?_
      refine Eq.trans (rr_invV0i (S' := []) (L' := [some (.inr (.inr l0)), some (.inl ((-5)))]) (m' := (148, 0)) rfl rfl rfl rfl rfl rfl h1) ?_
      refine bi_cg (fun z2 ω2 => ?_)
      exact rr_ireturn rfl rfl
    · refine Eq.trans (rr_aload_n rfl rfl) ?_
      refine Eq.trans (rr_iload_n rfl rfl) ?_
      refine Eq.trans (rr_iload_n rfl rfl) ?_
      refine Eq.trans (rr_invV0i (S' := []) (L' := [some (.inr (.inr l0)), some (.inl l1), some (.inl l2)]) (m' := (183, 0)) rfl rfl rfl rfl rfl rfl h1) ?_
      refine bi_cg (fun z3 ω3 => ?_)
      refine Eq.trans (rr_if_eq rfl rfl) (it_cg (fun _ => ?_) (fun _ => ?_))
      · refine Eq.trans (rr_aload_n rfl rfl) ?_
        refine Eq.trans (rr_bipush rfl rfl) ?_
        refine ck_it (fun h => rr_invV0i (S' := []) (L' := [some (.inr (.inr l0)), some (.inl ((-5)))]) (m' := (148, 0)) rfl rfl rfl rfl rfl rfl h) (fun h => rr_invV0_no (S' := []) (L' := [some (.inr (.inr l0)), some (.inl ((-5)))]) (m' := (148, 0)) rfl rfl rfl rfl rfl rfl h) (fun h2 => ?_)
        refine bi_cg (fun z4 ω4 => ?_)
        exact rr_ireturn rfl rfl
      · refine Eq.trans (rr_aload_n rfl rfl) ?_
        refine ck_it (fun h => rr_getfr rfl rfl rfl h) (fun h => rr_getfield_no rfl rfl h) (fun h3 => ?_)
        refine Eq.trans (rr_iload_n rfl rfl) ?_
        refine ck_it (fun h => rr_iaload rfl rfl h) (fun h => rr_iaload_no rfl rfl h) (fun h4 => ?_)
        refine Eq.trans (rr_if_eq rfl rfl) (it_cg (fun _ => ?_) (fun _ => ?_))
        · refine Eq.trans (rr_aload_n rfl rfl) ?_
          refine Eq.trans (rr_bipush rfl rfl) ?_
          refine Eq.trans (rr_invV0i (S' := []) (L' := [some (.inr (.inr l0)), some (.inl ((-5)))]) (m' := (148, 0)) rfl rfl rfl rfl rfl rfl h3) ?_
          refine bi_cg (fun z5 ω5 => ?_)
          exact rr_ireturn rfl rfl
        · refine Eq.trans (rr_aload_n rfl rfl) ?_
          refine Eq.trans (rr_iload_n rfl rfl) ?_
          refine Eq.trans (rr_iconst rfl rfl) ?_
          refine Eq.trans (rr_icmp_ne rfl rfl) (it_cg (fun _ => ?_) (fun _ => ?_))
          · refine Eq.trans (rr_aload_n rfl rfl) ?_
            refine Eq.trans (rr_getfr rfl rfl rfl h3) ?_
            refine Eq.trans (rr_iload_n rfl rfl) ?_
            refine ck_it (fun h => rr_iaload rfl rfl h) (fun h => rr_iaload_no rfl rfl h) (fun h5 => ?_)
            refine Eq.trans (rr_iconst rfl rfl) ?_
            refine Eq.trans (rr_isub rfl) ?_
            rfl
          · refine Eq.trans (rr_aload_n rfl rfl) ?_
            refine Eq.trans (rr_getfr rfl rfl rfl h3) ?_
            refine Eq.trans (rr_iload_n rfl rfl) ?_
            refine ck_it (fun h => rr_iaload rfl rfl h) (fun h => rr_iaload_no rfl rfl h) (fun h6 => ?_)
            refine Eq.trans (rr_iconst rfl rfl) ?_
            refine Eq.trans (rr_iadd rfl) ?_
            refine Eq.trans (rr_goto rfl rfl) ?_
            rfl
theorem pX7_hurl_132 (l0 l1 l2 l3 l4 l5 s0 s1 : Int) (ω : am_W) (h1 : am_is ω s0 (7, 30) = true) : am_run (225, 0) 132 ([some (.inr (.inr l0)), some (.inl l1), some (.inl l2), some (.inl l3), some (.inl l4), some (.inl l5)], [.inl s1, .inr (.inr s0)], ω) = am_bi (am_run (153, 0) 0 ([some (.inr (.inr s0)), some (.inl s1)], [], ω)) (fun z1 ω1 => if ¬ z1 = 0 then (if am_is ω1 l0 (7, 30) = true then (if am_in ω1 (am_get ω1 l0.toNat 10) 100 l1 = true then (am_bv (am_run (190, 0) 0 ([some (.inr (.inr l0)), some (.inl l2), some (.inl l3), none, none], [], am_put ω1 (am_get ω1 l0.toNat 10).toNat l1.toNat (am_w ((am_get ω1 (am_get ω1 l0.toNat 10).toNat l1.toNat) - 1)))) (fun ω2 => if am_is ω2 l0 (7, 30) = true then (if am_in ω2 (am_get ω2 l0.toNat 11) 100 l2 = true then (some (some (.inl (am_get ω2 (am_get ω2 l0.toNat 11).toNat l2.toNat)), ω2)) else none) else none)) else none) else none) else (if am_is ω1 l0 (7, 30) = true then (am_bi (am_run (148, 0) 0 ([some (.inr (.inr l0)), some (.inl ((-5)))], [], ω1)) (fun z3 ω3 => some (some (.inl z3), ω3))) else none)) := by
  refine Eq.trans (rr_invV0i (S' := []) (L' := [some (.inr (.inr s0)), some (.inl s1)]) (m' := (153, 0)) rfl rfl rfl rfl rfl rfl h1) ?_
  refine bi_cg (fun z1 ω1 => ?_)
  refine Eq.trans (rr_if_ne rfl rfl) (it_cg (fun _ => ?_) (fun _ => ?_))
  · refine Eq.trans (rr_aload_n rfl rfl) ?_
    refine ck_it (fun h => rr_getfr rfl rfl rfl h) (fun h => rr_getfield_no rfl rfl h) (fun h2 => ?_)
    refine Eq.trans (rr_iload_n rfl rfl) ?_
    refine Eq.trans (rr_dup2 rfl) ?_
    refine ck_it (fun h => rr_iaload rfl rfl h) (fun h => rr_iaload_no rfl rfl h) (fun h3 => ?_)
    refine Eq.trans (rr_iconst rfl rfl) ?_
    refine Eq.trans (rr_isub rfl) ?_
    refine Eq.trans (rr_iastore rfl h3) ?_
    refine Eq.trans (rr_aload_n rfl rfl) ?_
    refine Eq.trans (rr_iload_n rfl rfl) ?_
    refine Eq.trans (rr_iload_n rfl rfl) ?_
    refine Eq.trans (rr_invV0v (S' := []) (L' := [some (.inr (.inr l0)), some (.inl l2), some (.inl l3), none, none]) (m' := (190, 0)) rfl rfl rfl rfl rfl rfl h2) ?_
    refine bv_cg (fun ω2 => ?_)
    refine Eq.trans (rr_aload_n rfl rfl) ?_
    refine ck_it (fun h => rr_getfr rfl rfl rfl h) (fun h => rr_getfield_no rfl rfl h) (fun h4 => ?_)
    refine Eq.trans (rr_iload_n rfl rfl) ?_
    refine ck_it (fun h => rr_iaload rfl rfl h) (fun h => rr_iaload_no rfl rfl h) (fun h5 => ?_)
    exact rr_ireturn rfl rfl
  · refine Eq.trans (rr_aload_n rfl rfl) ?_
    refine Eq.trans (rr_bipush rfl rfl) ?_
    refine ck_it (fun h => rr_invV0i (S' := []) (L' := [some (.inr (.inr l0)), some (.inl ((-5)))]) (m' := (148, 0)) rfl rfl rfl rfl rfl rfl h) (fun h => rr_invV0_no (S' := []) (L' := [some (.inr (.inr l0)), some (.inl ((-5)))]) (m' := (148, 0)) rfl rfl rfl rfl rfl rfl h) (fun h6 => ?_)
    refine bi_cg (fun z3 ω3 => ?_)
    exact rr_ireturn rfl rfl
theorem pX7_draw_0 (l0 l1 : Int) (ω : am_W) (h1 : am_is ω l0 (7, 30) = true) : am_run (226, 0) 0 ([some (.inr (.inr l0)), some (.inl l1)], [], ω) = if l1 = 0 then none else (some (some (.inl ((am_ushr (am_get (am_put ω l0.toNat 14 (am_w ((am_w ((am_get ω l0.toNat 14) * 1103515245)) + 12345))) l0.toNat 14) 16).tmod l1)), am_put ω l0.toNat 14 (am_w ((am_w ((am_get ω l0.toNat 14) * 1103515245)) + 12345)))) := by
  refine Eq.trans (rr_aload_n rfl rfl) ?_
  refine Eq.trans (rr_aload_n rfl rfl) ?_
  refine Eq.trans (rr_getfi rfl rfl rfl h1) ?_
  refine Eq.trans (rr_ldc_w rfl rfl) ?_
  refine Eq.trans (rr_imul rfl) ?_
  refine Eq.trans (rr_sipush rfl rfl) ?_
  refine Eq.trans (rr_iadd rfl) ?_
  refine Eq.trans (rr_putfieldi rfl rfl rfl h1) ?_
  refine Eq.trans (rr_aload_n rfl rfl) ?_
  refine Eq.trans (rr_getfi rfl rfl rfl h1) ?_
  refine Eq.trans (rr_bipush rfl rfl) ?_
  refine Eq.trans (rr_iushr rfl) ?_
  refine Eq.trans (rr_iload_n rfl rfl) ?_
  refine Eq.trans (rr_irem rfl) (it_cg (fun _ => rfl) (fun _ => ?_))
  exact rr_ireturn rfl rfl
theorem pX7_bolts_0 (l0 l1 : Int) (ω : am_W) : am_run (227, 0) 0 ([some (.inr (.inr l0)), some (.inl l1), none, none], [], ω) = am_bi (am_run (149, 0) 0 ([some (.inl l1), some (.inl 1), some (.inl 6)], [], ω)) (fun z1 ω1 => if ¬ z1 = 0 then (am_run (227, 0) 19 ([some (.inr (.inr l0)), some (.inl l1), some (.inl 0), none], [], ω1)) else (if am_is ω1 l0 (7, 30) = true then (am_bi (am_run (148, 0) 0 ([some (.inr (.inr l0)), some (.inl ((-2)))], [], ω1)) (fun z2 ω2 => some (some (.inl z2), ω2))) else none)) := by
  refine Eq.trans (rr_iload_n rfl rfl) ?_
  refine Eq.trans (rr_iconst rfl rfl) ?_
  refine Eq.trans (rr_bipush rfl rfl) ?_
  refine Eq.trans (rr_invS2i (S' := []) (L' := [some (.inl l1), some (.inl 1), some (.inl 6)]) (m' := (149, 0)) rfl rfl rfl rfl rfl rfl) ?_
  refine bi_cg (fun z1 ω1 => ?_)
  refine Eq.trans (rr_if_ne rfl rfl) (it_cg (fun _ => ?_) (fun _ => ?_))
  · refine Eq.trans (rr_iconst rfl rfl) ?_
    refine Eq.trans (rr_istore_n (L' := [some (.inr (.inr l0)), some (.inl l1), some (.inl 0), none]) rfl rfl) ?_
    rfl
  · refine Eq.trans (rr_aload_n rfl rfl) ?_
    refine Eq.trans (rr_bipush rfl rfl) ?_
    refine ck_it (fun h => rr_invV0i (S' := []) (L' := [some (.inr (.inr l0)), some (.inl ((-2)))]) (m' := (148, 0)) rfl rfl rfl rfl rfl rfl h) (fun h => rr_invV0_no (S' := []) (L' := [some (.inr (.inr l0)), some (.inl ((-2)))]) (m' := (148, 0)) rfl rfl rfl rfl rfl rfl h) (fun h1 => ?_)
    refine bi_cg (fun z2 ω2 => ?_)
    exact rr_ireturn rfl rfl
theorem pX7_bolts_19 (l0 l1 l2 : Int) (o3 : Option am_V) (ω : am_W) (h1 : am_is ω l0 (7, 30) = true) : am_run (227, 0) 19 ([some (.inr (.inr l0)), some (.inl l1), some (.inl l2), o3], [], ω) = if l1 ≤ l2 then (some (some (.inl l2), ω)) else (if 6 ≤ (am_get ω l0.toNat 6) then (some (some (.inl l2), ω)) else (am_bi (am_run (226, 0) 0 ([some (.inr (.inr l0)), some (.inl (am_get ω l0.toNat 3))], [], ω)) (fun z1 ω1 => if am_is ω1 l0 (7, 30) = true then (if am_in ω1 (am_get ω1 l0.toNat 4) 100 z1 = true then (am_bi (am_run (226, 0) 0 ([some (.inr (.inr l0)), some (.inl (am_get ω1 (am_get ω1 l0.toNat 4).toNat z1.toNat))], [], ω1)) (fun z2 ω2 => if am_is ω2 l0 (7, 30) = true then (am_bi (am_run (168, 0) 0 ([some (.inr (.inr l0)), some (.inl 3), some (.inl z1), some (.inl z2), some (.inl 0)], [], ω2)) (fun z3 ω3 => am_run (227, 0) 19 ([some (.inr (.inr l0)), some (.inl l1), some (.inl (am_w (l2 + 1))), some (.inl z1)], [], ω3))) else none)) else none) else none))) := by
  refine Eq.trans (rr_iload_n rfl rfl) ?_
  refine Eq.trans (rr_iload_n rfl rfl) ?_
  refine Eq.trans (rr_icmp_ge rfl rfl) (it_cg (fun _ => ?_) (fun _ => ?_))
  · refine Eq.trans (rr_iload_n rfl rfl) ?_
    exact rr_ireturn rfl rfl
  · refine Eq.trans (rr_aload_n rfl rfl) ?_
    refine Eq.trans (rr_getfi rfl rfl rfl h1) ?_
    refine Eq.trans (rr_bipush rfl rfl) ?_
    refine Eq.trans (rr_icmp_ge rfl rfl) (it_cg (fun _ => ?_) (fun _ => ?_))
    · refine Eq.trans (rr_iload_n rfl rfl) ?_
      exact rr_ireturn rfl rfl
    · refine Eq.trans (rr_aload_n rfl rfl) ?_
      refine Eq.trans (rr_aload_n rfl rfl) ?_
      refine Eq.trans (rr_getfi rfl rfl rfl h1) ?_
      refine Eq.trans (rr_invV0i (S' := []) (L' := [some (.inr (.inr l0)), some (.inl (am_get ω l0.toNat 3))]) (m' := (226, 0)) rfl rfl rfl rfl rfl rfl h1) ?_
      refine bi_cg (fun z1 ω1 => ?_)
      refine Eq.trans (rr_istore_n (L' := [some (.inr (.inr l0)), some (.inl l1), some (.inl l2), some (.inl z1)]) rfl rfl) ?_
      refine Eq.trans (rr_aload_n rfl rfl) ?_
      refine Eq.trans (rr_iconst rfl rfl) ?_
      refine Eq.trans (rr_iload_n rfl rfl) ?_
      refine Eq.trans (rr_aload_n rfl rfl) ?_
      refine Eq.trans (rr_aload_n rfl rfl) ?_
      refine ck_it (fun h => rr_getfr rfl rfl rfl h) (fun h => rr_getfield_no rfl rfl h) (fun h2 => ?_)
      refine Eq.trans (rr_iload_n rfl rfl) ?_
      refine ck_it (fun h => rr_iaload rfl rfl h) (fun h => rr_iaload_no rfl rfl h) (fun h3 => ?_)
      refine Eq.trans (rr_invV0i (S' := [.inl z1, .inl 3, .inr (.inr l0)]) (L' := [some (.inr (.inr l0)), some (.inl (am_get ω1 (am_get ω1 l0.toNat 4).toNat z1.toNat))]) (m' := (226, 0)) rfl rfl rfl rfl rfl rfl h2) ?_
      refine bi_cg (fun z2 ω2 => ?_)
      refine Eq.trans (rr_iconst rfl rfl) ?_
      refine ck_it (fun h => rr_invV0i (S' := []) (L' := [some (.inr (.inr l0)), some (.inl 3), some (.inl z1), some (.inl z2), some (.inl 0)]) (m' := (168, 0)) rfl rfl rfl rfl rfl rfl h) (fun h => rr_invV0_no (S' := []) (L' := [some (.inr (.inr l0)), some (.inl 3), some (.inl z1), some (.inl z2), some (.inl 0)]) (m' := (168, 0)) rfl rfl rfl rfl rfl rfl h) (fun h4 => ?_)
      refine bi_cg (fun z3 ω3 => ?_)
      refine Eq.trans (rr_popi rfl) ?_
      refine Eq.trans (rr_iinc (L' := [some (.inr (.inr l0)), some (.inl l1), some (.inl (am_w (l2 + 1))), some (.inl z1)]) rfl rfl rfl) ?_
      refine Eq.trans (rr_goto rfl rfl) ?_
      rfl
theorem pX7_seed_0 (l0 l1 : Int) (ω : am_W) (h1 : am_is ω l0 (7, 30) = true) : am_run (228, 0) 0 ([some (.inr (.inr l0)), some (.inl l1), none], [], ω) = some (some (.inl (am_get ω l0.toNat 14)), am_put ω l0.toNat 14 l1) := by
  refine Eq.trans (rr_aload_n rfl rfl) ?_
  refine Eq.trans (rr_getfi rfl rfl rfl h1) ?_
  refine Eq.trans (rr_istore_n (L' := [some (.inr (.inr l0)), some (.inl l1), some (.inl (am_get ω l0.toNat 14))]) rfl rfl) ?_
  refine Eq.trans (rr_aload_n rfl rfl) ?_
  refine Eq.trans (rr_iload_n rfl rfl) ?_
  refine Eq.trans (rr_putfieldi rfl rfl rfl h1) ?_
  refine Eq.trans (rr_iload_n rfl rfl) ?_
  exact rr_ireturn rfl rfl
theorem pX7_keep_0 (l0 l1 : Int) (ω : am_W) : am_run (229, 0) 0 ([some (.inr (.inr l0)), some (.inr (.inr l1)), none], [], ω) = am_run (229, 0) 2 ([some (.inr (.inr l0)), some (.inr (.inr l1)), some (.inl 0)], [], ω) := by
  refine Eq.trans (rr_iconst rfl rfl) ?_
  refine Eq.trans (rr_istore_n (L' := [some (.inr (.inr l0)), some (.inr (.inr l1)), some (.inl 0)]) rfl rfl) ?_
  rfl
theorem pX7_keep_2 (l0 l1 l2 : Int) (ω : am_W) (h1 : am_is ω l0 (7, 30) = true) : am_run (229, 0) 2 ([some (.inr (.inr l0)), some (.inr (.inr l1)), some (.inl l2)], [], ω) = if 6 ≤ l2 then (if am_in ω l1 100 42 = true then (am_run (229, 0) 103 ([some (.inr (.inr l0)), some (.inr (.inr l1)), some (.inl l2)], [], am_put ω l1.toNat 42 (am_get ω l0.toNat 3))) else none) else (if am_in ω (am_get ω l0.toNat 4) 100 l2 = true then (if am_in ω l1 100 l2 = true then (if am_in (am_put ω l1.toNat l2.toNat (am_get ω (am_get ω l0.toNat 4).toNat l2.toNat)) (am_get (am_put ω l1.toNat l2.toNat (am_get ω (am_get ω l0.toNat 4).toNat l2.toNat)) l0.toNat 5) 100 l2 = true then (if am_in (am_put ω l1.toNat l2.toNat (am_get ω (am_get ω l0.toNat 4).toNat l2.toNat)) l1 100 (am_w (6 + l2)) = true then (am_run (229, 0) 29 ([some (.inr (.inr l0)), some (.inr (.inr l1)), some (.inl l2)], [], am_put (am_put ω l1.toNat l2.toNat (am_get ω (am_get ω l0.toNat 4).toNat l2.toNat)) l1.toNat (am_w (6 + l2)).toNat (am_get (am_put ω l1.toNat l2.toNat (am_get ω (am_get ω l0.toNat 4).toNat l2.toNat)) (am_get (am_put ω l1.toNat l2.toNat (am_get ω (am_get ω l0.toNat 4).toNat l2.toNat)) l0.toNat 5).toNat l2.toNat))) else none) else none) else none) else none) := by
  refine Eq.trans (rr_iload_n rfl rfl) ?_
  refine Eq.trans (rr_bipush rfl rfl) ?_
  refine Eq.trans (rr_icmp_ge rfl rfl) (it_cg (fun _ => ?_) (fun _ => ?_))
  · refine Eq.trans (rr_aload_n rfl rfl) ?_
    refine Eq.trans (rr_bipush rfl rfl) ?_
    refine Eq.trans (rr_aload_n rfl rfl) ?_
    refine Eq.trans (rr_getfi rfl rfl rfl h1) ?_
    refine ck_it (fun h => rr_iastore rfl h) (fun h => rr_iastore_no rfl h) (fun h2 => ?_)
    rfl
  · refine Eq.trans (rr_aload_n rfl rfl) ?_
    refine Eq.trans (rr_iload_n rfl rfl) ?_
    refine Eq.trans (rr_aload_n rfl rfl) ?_
    refine Eq.trans (rr_getfr rfl rfl rfl h1) ?_
    refine Eq.trans (rr_iload_n rfl rfl) ?_
    refine ck_it (fun h => rr_iaload rfl rfl h) (fun h => rr_iaload_no rfl rfl h) (fun h3 => ?_)
    refine ck_it (fun h => rr_iastore rfl h) (fun h => rr_iastore_no rfl h) (fun h4 => ?_)
    refine Eq.trans (rr_aload_n rfl rfl) ?_
    refine Eq.trans (rr_bipush rfl rfl) ?_
    refine Eq.trans (rr_iload_n rfl rfl) ?_
    refine Eq.trans (rr_iadd rfl) ?_
    refine Eq.trans (rr_aload_n rfl rfl) ?_
    refine Eq.trans (rr_getfr rfl rfl rfl h1) ?_
    refine Eq.trans (rr_iload_n rfl rfl) ?_
    refine ck_it (fun h => rr_iaload rfl rfl h) (fun h => rr_iaload_no rfl rfl h) (fun h5 => ?_)
    refine ck_it (fun h => rr_iastore rfl h) (fun h => rr_iastore_no rfl h) (fun h6 => ?_)
    rfl
theorem pX7_keep_29 (l0 l1 l2 : Int) (ω : am_W) (h1 : am_is ω l0 (7, 30) = true) : am_run (229, 0) 29 ([some (.inr (.inr l0)), some (.inr (.inr l1)), some (.inl l2)], [], ω) = if am_in ω (am_get ω l0.toNat 7) 100 l2 = true then (if am_in ω l1 100 (am_w (12 + l2)) = true then (if am_in (am_put ω l1.toNat (am_w (12 + l2)).toNat (am_get ω (am_get ω l0.toNat 7).toNat l2.toNat)) (am_get (am_put ω l1.toNat (am_w (12 + l2)).toNat (am_get ω (am_get ω l0.toNat 7).toNat l2.toNat)) l0.toNat 8) 100 l2 = true then (if am_in (am_put ω l1.toNat (am_w (12 + l2)).toNat (am_get ω (am_get ω l0.toNat 7).toNat l2.toNat)) l1 100 (am_w (18 + l2)) = true then (am_run (229, 0) 53 ([some (.inr (.inr l0)), some (.inr (.inr l1)), some (.inl l2)], [], am_put (am_put ω l1.toNat (am_w (12 + l2)).toNat (am_get ω (am_get ω l0.toNat 7).toNat l2.toNat)) l1.toNat (am_w (18 + l2)).toNat (am_get (am_put ω l1.toNat (am_w (12 + l2)).toNat (am_get ω (am_get ω l0.toNat 7).toNat l2.toNat)) (am_get (am_put ω l1.toNat (am_w (12 + l2)).toNat (am_get ω (am_get ω l0.toNat 7).toNat l2.toNat)) l0.toNat 8).toNat l2.toNat))) else none) else none) else none) else none := by
  refine Eq.trans (rr_aload_n rfl rfl) ?_
  refine Eq.trans (rr_bipush rfl rfl) ?_
  refine Eq.trans (rr_iload_n rfl rfl) ?_
  refine Eq.trans (rr_iadd rfl) ?_
  refine Eq.trans (rr_aload_n rfl rfl) ?_
  refine Eq.trans (rr_getfr rfl rfl rfl h1) ?_
  refine Eq.trans (rr_iload_n rfl rfl) ?_
  refine ck_it (fun h => rr_iaload rfl rfl h) (fun h => rr_iaload_no rfl rfl h) (fun h2 => ?_)
  refine ck_it (fun h => rr_iastore rfl h) (fun h => rr_iastore_no rfl h) (fun h3 => ?_)
  refine Eq.trans (rr_aload_n rfl rfl) ?_
  refine Eq.trans (rr_bipush rfl rfl) ?_
  refine Eq.trans (rr_iload_n rfl rfl) ?_
  refine Eq.trans (rr_iadd rfl) ?_
  refine Eq.trans (rr_aload_n rfl rfl) ?_
  refine Eq.trans (rr_getfr rfl rfl rfl h1) ?_
  refine Eq.trans (rr_iload_n rfl rfl) ?_
  refine ck_it (fun h => rr_iaload rfl rfl h) (fun h => rr_iaload_no rfl rfl h) (fun h4 => ?_)
  refine ck_it (fun h => rr_iastore rfl h) (fun h => rr_iastore_no rfl h) (fun h5 => ?_)
  rfl
theorem pX7_keep_53 (l0 l1 l2 : Int) (ω : am_W) (h1 : am_is ω l0 (7, 30) = true) : am_run (229, 0) 53 ([some (.inr (.inr l0)), some (.inr (.inr l1)), some (.inl l2)], [], ω) = if am_in ω (am_get ω l0.toNat 9) 100 l2 = true then (if am_in ω l1 100 (am_w (24 + l2)) = true then (if am_in (am_put ω l1.toNat (am_w (24 + l2)).toNat (am_get ω (am_get ω l0.toNat 9).toNat l2.toNat)) (am_get (am_put ω l1.toNat (am_w (24 + l2)).toNat (am_get ω (am_get ω l0.toNat 9).toNat l2.toNat)) l0.toNat 10) 100 l2 = true then (if am_in (am_put ω l1.toNat (am_w (24 + l2)).toNat (am_get ω (am_get ω l0.toNat 9).toNat l2.toNat)) l1 100 (am_w (30 + l2)) = true then (am_run (229, 0) 77 ([some (.inr (.inr l0)), some (.inr (.inr l1)), some (.inl l2)], [], am_put (am_put ω l1.toNat (am_w (24 + l2)).toNat (am_get ω (am_get ω l0.toNat 9).toNat l2.toNat)) l1.toNat (am_w (30 + l2)).toNat (am_get (am_put ω l1.toNat (am_w (24 + l2)).toNat (am_get ω (am_get ω l0.toNat 9).toNat l2.toNat)) (am_get (am_put ω l1.toNat (am_w (24 + l2)).toNat (am_get ω (am_get ω l0.toNat 9).toNat l2.toNat)) l0.toNat 10).toNat l2.toNat))) else none) else none) else none) else none := by
  refine Eq.trans (rr_aload_n rfl rfl) ?_
  refine Eq.trans (rr_bipush rfl rfl) ?_
  refine Eq.trans (rr_iload_n rfl rfl) ?_
  refine Eq.trans (rr_iadd rfl) ?_
  refine Eq.trans (rr_aload_n rfl rfl) ?_
  refine Eq.trans (rr_getfr rfl rfl rfl h1) ?_
  refine Eq.trans (rr_iload_n rfl rfl) ?_
  refine ck_it (fun h => rr_iaload rfl rfl h) (fun h => rr_iaload_no rfl rfl h) (fun h2 => ?_)
  refine ck_it (fun h => rr_iastore rfl h) (fun h => rr_iastore_no rfl h) (fun h3 => ?_)
  refine Eq.trans (rr_aload_n rfl rfl) ?_
  refine Eq.trans (rr_bipush rfl rfl) ?_
  refine Eq.trans (rr_iload_n rfl rfl) ?_
  refine Eq.trans (rr_iadd rfl) ?_
  refine Eq.trans (rr_aload_n rfl rfl) ?_
  refine Eq.trans (rr_getfr rfl rfl rfl h1) ?_
  refine Eq.trans (rr_iload_n rfl rfl) ?_
  refine ck_it (fun h => rr_iaload rfl rfl h) (fun h => rr_iaload_no rfl rfl h) (fun h4 => ?_)
  refine ck_it (fun h => rr_iastore rfl h) (fun h => rr_iastore_no rfl h) (fun h5 => ?_)
  rfl
theorem pX7_keep_77 (l0 l1 l2 : Int) (ω : am_W) (h1 : am_is ω l0 (7, 30) = true) : am_run (229, 0) 77 ([some (.inr (.inr l0)), some (.inr (.inr l1)), some (.inl l2)], [], ω) = if am_in ω (am_get ω l0.toNat 11) 100 l2 = true then (if am_in ω l1 100 (am_w (36 + l2)) = true then (am_run (229, 0) 2 ([some (.inr (.inr l0)), some (.inr (.inr l1)), some (.inl (am_w (l2 + 1)))], [], am_put ω l1.toNat (am_w (36 + l2)).toNat (am_get ω (am_get ω l0.toNat 11).toNat l2.toNat))) else none) else none := by
  refine Eq.trans (rr_aload_n rfl rfl) ?_
  refine Eq.trans (rr_bipush rfl rfl) ?_
  refine Eq.trans (rr_iload_n rfl rfl) ?_
  refine Eq.trans (rr_iadd rfl) ?_
  refine Eq.trans (rr_aload_n rfl rfl) ?_
  refine Eq.trans (rr_getfr rfl rfl rfl h1) ?_
  refine Eq.trans (rr_iload_n rfl rfl) ?_
  refine ck_it (fun h => rr_iaload rfl rfl h) (fun h => rr_iaload_no rfl rfl h) (fun h2 => ?_)
  refine ck_it (fun h => rr_iastore rfl h) (fun h => rr_iastore_no rfl h) (fun h3 => ?_)
  refine Eq.trans (rr_iinc (L' := [some (.inr (.inr l0)), some (.inr (.inr l1)), some (.inl (am_w (l2 + 1)))]) rfl rfl rfl) ?_
  refine Eq.trans (rr_goto rfl rfl) ?_
  rfl
theorem pX7_keep_103 (l0 l1 l2 : Int) (ω : am_W) (h1 : am_is ω l0 (7, 30) = true) : am_run (229, 0) 103 ([some (.inr (.inr l0)), some (.inr (.inr l1)), some (.inl l2)], [], ω) = if am_in ω l1 100 43 = true then (if am_in (am_put ω l1.toNat 43 (am_get ω l0.toNat 6)) l1 100 44 = true then (am_run (229, 0) 119 ([some (.inr (.inr l0)), some (.inr (.inr l1)), some (.inl l2)], [], am_put (am_put ω l1.toNat 43 (am_get ω l0.toNat 6)) l1.toNat 44 (am_get (am_put ω l1.toNat 43 (am_get ω l0.toNat 6)) l0.toNat 12))) else none) else none := by
  refine Eq.trans (rr_aload_n rfl rfl) ?_
  refine Eq.trans (rr_bipush rfl rfl) ?_
  refine Eq.trans (rr_aload_n rfl rfl) ?_
  refine Eq.trans (rr_getfi rfl rfl rfl h1) ?_
  refine ck_it (fun h => rr_iastore rfl h) (fun h => rr_iastore_no rfl h) (fun h2 => ?_)
  refine Eq.trans (rr_aload_n rfl rfl) ?_
  refine Eq.trans (rr_bipush rfl rfl) ?_
  refine Eq.trans (rr_aload_n rfl rfl) ?_
  refine Eq.trans (rr_getfi rfl rfl rfl h1) ?_
  refine ck_it (fun h => rr_iastore rfl h) (fun h => rr_iastore_no rfl h) (fun h3 => ?_)
  rfl
theorem pX7_keep_119 (l0 l1 l2 : Int) (ω : am_W) (h1 : am_is ω l0 (7, 30) = true) : am_run (229, 0) 119 ([some (.inr (.inr l0)), some (.inr (.inr l1)), some (.inl l2)], [], ω) = if am_in ω l1 100 45 = true then (if am_in (am_put ω l1.toNat 45 (am_get ω l0.toNat 13)) l1 100 46 = true then (some (none, am_put (am_put ω l1.toNat 45 (am_get ω l0.toNat 13)) l1.toNat 46 (am_get (am_put ω l1.toNat 45 (am_get ω l0.toNat 13)) l0.toNat 14))) else none) else none := by
  refine Eq.trans (rr_aload_n rfl rfl) ?_
  refine Eq.trans (rr_bipush rfl rfl) ?_
  refine Eq.trans (rr_aload_n rfl rfl) ?_
  refine Eq.trans (rr_getfi rfl rfl rfl h1) ?_
  refine ck_it (fun h => rr_iastore rfl h) (fun h => rr_iastore_no rfl h) (fun h2 => ?_)
  refine Eq.trans (rr_aload_n rfl rfl) ?_
  refine Eq.trans (rr_bipush rfl rfl) ?_
  refine Eq.trans (rr_aload_n rfl rfl) ?_
  refine Eq.trans (rr_getfi rfl rfl rfl h1) ?_
  refine ck_it (fun h => rr_iastore rfl h) (fun h => rr_iastore_no rfl h) (fun h3 => ?_)
  exact rr_return rfl rfl
theorem pX7_again__0 (l0 l1 : Int) (ω : am_W) : am_run (230, 0) 0 ([some (.inr (.inr l0)), some (.inr (.inr l1)), none], [], ω) = am_run (230, 0) 2 ([some (.inr (.inr l0)), some (.inr (.inr l1)), some (.inl 0)], [], ω) := by
  refine Eq.trans (rr_iconst rfl rfl) ?_
  refine Eq.trans (rr_istore_n (L' := [some (.inr (.inr l0)), some (.inr (.inr l1)), some (.inl 0)]) rfl rfl) ?_
  rfl
theorem pX7_again__2 (l0 l1 l2 : Int) (ω : am_W) (h2 : am_is ω l0 (7, 30) = true) : am_run (230, 0) 2 ([some (.inr (.inr l0)), some (.inr (.inr l1)), some (.inl l2)], [], ω) = if 6 ≤ l2 then (if am_in ω l1 100 42 = true then (am_run (230, 0) 103 ([some (.inr (.inr l0)), some (.inr (.inr l1)), some (.inl l2)], [], am_put ω l0.toNat 3 (am_get ω l1.toNat 42))) else none) else (if am_in ω l1 100 l2 = true then (if am_in ω (am_get ω l0.toNat 4) 100 l2 = true then (if am_in (am_put ω (am_get ω l0.toNat 4).toNat l2.toNat (am_get ω l1.toNat l2.toNat)) l1 100 (am_w (6 + l2)) = true then (if am_in (am_put ω (am_get ω l0.toNat 4).toNat l2.toNat (am_get ω l1.toNat l2.toNat)) (am_get (am_put ω (am_get ω l0.toNat 4).toNat l2.toNat (am_get ω l1.toNat l2.toNat)) l0.toNat 5) 100 l2 = true then (am_run (230, 0) 29 ([some (.inr (.inr l0)), some (.inr (.inr l1)), some (.inl l2)], [], am_put (am_put ω (am_get ω l0.toNat 4).toNat l2.toNat (am_get ω l1.toNat l2.toNat)) (am_get (am_put ω (am_get ω l0.toNat 4).toNat l2.toNat (am_get ω l1.toNat l2.toNat)) l0.toNat 5).toNat l2.toNat (am_get (am_put ω (am_get ω l0.toNat 4).toNat l2.toNat (am_get ω l1.toNat l2.toNat)) l1.toNat (am_w (6 + l2)).toNat))) else none) else none) else none) else none) := by
  refine Eq.trans (rr_iload_n rfl rfl) ?_
  refine Eq.trans (rr_bipush rfl rfl) ?_
  refine Eq.trans (rr_icmp_ge rfl rfl) (it_cg (fun _ => ?_) (fun _ => ?_))
  · refine Eq.trans (rr_aload_n rfl rfl) ?_
    refine Eq.trans (rr_aload_n rfl rfl) ?_
    refine Eq.trans (rr_bipush rfl rfl) ?_
    refine ck_it (fun h => rr_iaload rfl rfl h) (fun h => rr_iaload_no rfl rfl h) (fun h1 => ?_)
    refine Eq.trans (rr_putfieldi rfl rfl rfl h2) ?_
    rfl
  · refine Eq.trans (rr_aload_n rfl rfl) ?_
    refine Eq.trans (rr_getfr rfl rfl rfl h2) ?_
    refine Eq.trans (rr_iload_n rfl rfl) ?_
    refine Eq.trans (rr_aload_n rfl rfl) ?_
    refine Eq.trans (rr_iload_n rfl rfl) ?_
    refine ck_it (fun h => rr_iaload rfl rfl h) (fun h => rr_iaload_no rfl rfl h) (fun h3 => ?_)
    refine ck_it (fun h => rr_iastore rfl h) (fun h => rr_iastore_no rfl h) (fun h4 => ?_)
    refine Eq.trans (rr_aload_n rfl rfl) ?_
    refine Eq.trans (rr_getfr rfl rfl rfl h2) ?_
    refine Eq.trans (rr_iload_n rfl rfl) ?_
    refine Eq.trans (rr_aload_n rfl rfl) ?_
    refine Eq.trans (rr_bipush rfl rfl) ?_
    refine Eq.trans (rr_iload_n rfl rfl) ?_
    refine Eq.trans (rr_iadd rfl) ?_
    refine ck_it (fun h => rr_iaload rfl rfl h) (fun h => rr_iaload_no rfl rfl h) (fun h5 => ?_)
    refine ck_it (fun h => rr_iastore rfl h) (fun h => rr_iastore_no rfl h) (fun h6 => ?_)
    rfl
theorem pX7_again__29 (l0 l1 l2 : Int) (ω : am_W) (h1 : am_is ω l0 (7, 30) = true) : am_run (230, 0) 29 ([some (.inr (.inr l0)), some (.inr (.inr l1)), some (.inl l2)], [], ω) = if am_in ω l1 100 (am_w (12 + l2)) = true then (if am_in ω (am_get ω l0.toNat 7) 100 l2 = true then (if am_in (am_put ω (am_get ω l0.toNat 7).toNat l2.toNat (am_get ω l1.toNat (am_w (12 + l2)).toNat)) l1 100 (am_w (18 + l2)) = true then (if am_in (am_put ω (am_get ω l0.toNat 7).toNat l2.toNat (am_get ω l1.toNat (am_w (12 + l2)).toNat)) (am_get (am_put ω (am_get ω l0.toNat 7).toNat l2.toNat (am_get ω l1.toNat (am_w (12 + l2)).toNat)) l0.toNat 8) 100 l2 = true then (am_run (230, 0) 53 ([some (.inr (.inr l0)), some (.inr (.inr l1)), some (.inl l2)], [], am_put (am_put ω (am_get ω l0.toNat 7).toNat l2.toNat (am_get ω l1.toNat (am_w (12 + l2)).toNat)) (am_get (am_put ω (am_get ω l0.toNat 7).toNat l2.toNat (am_get ω l1.toNat (am_w (12 + l2)).toNat)) l0.toNat 8).toNat l2.toNat (am_get (am_put ω (am_get ω l0.toNat 7).toNat l2.toNat (am_get ω l1.toNat (am_w (12 + l2)).toNat)) l1.toNat (am_w (18 + l2)).toNat))) else none) else none) else none) else none := by
  refine Eq.trans (rr_aload_n rfl rfl) ?_
  refine Eq.trans (rr_getfr rfl rfl rfl h1) ?_
  refine Eq.trans (rr_iload_n rfl rfl) ?_
  refine Eq.trans (rr_aload_n rfl rfl) ?_
  refine Eq.trans (rr_bipush rfl rfl) ?_
  refine Eq.trans (rr_iload_n rfl rfl) ?_
  refine Eq.trans (rr_iadd rfl) ?_
  refine ck_it (fun h => rr_iaload rfl rfl h) (fun h => rr_iaload_no rfl rfl h) (fun h2 => ?_)
  refine ck_it (fun h => rr_iastore rfl h) (fun h => rr_iastore_no rfl h) (fun h3 => ?_)
  refine Eq.trans (rr_aload_n rfl rfl) ?_
  refine Eq.trans (rr_getfr rfl rfl rfl h1) ?_
  refine Eq.trans (rr_iload_n rfl rfl) ?_
  refine Eq.trans (rr_aload_n rfl rfl) ?_
  refine Eq.trans (rr_bipush rfl rfl) ?_
  refine Eq.trans (rr_iload_n rfl rfl) ?_
  refine Eq.trans (rr_iadd rfl) ?_
  refine ck_it (fun h => rr_iaload rfl rfl h) (fun h => rr_iaload_no rfl rfl h) (fun h4 => ?_)
  refine ck_it (fun h => rr_iastore rfl h) (fun h => rr_iastore_no rfl h) (fun h5 => ?_)
  rfl
theorem pX7_again__53 (l0 l1 l2 : Int) (ω : am_W) (h1 : am_is ω l0 (7, 30) = true) : am_run (230, 0) 53 ([some (.inr (.inr l0)), some (.inr (.inr l1)), some (.inl l2)], [], ω) = if am_in ω l1 100 (am_w (24 + l2)) = true then (if am_in ω (am_get ω l0.toNat 9) 100 l2 = true then (if am_in (am_put ω (am_get ω l0.toNat 9).toNat l2.toNat (am_get ω l1.toNat (am_w (24 + l2)).toNat)) l1 100 (am_w (30 + l2)) = true then (if am_in (am_put ω (am_get ω l0.toNat 9).toNat l2.toNat (am_get ω l1.toNat (am_w (24 + l2)).toNat)) (am_get (am_put ω (am_get ω l0.toNat 9).toNat l2.toNat (am_get ω l1.toNat (am_w (24 + l2)).toNat)) l0.toNat 10) 100 l2 = true then (am_run (230, 0) 77 ([some (.inr (.inr l0)), some (.inr (.inr l1)), some (.inl l2)], [], am_put (am_put ω (am_get ω l0.toNat 9).toNat l2.toNat (am_get ω l1.toNat (am_w (24 + l2)).toNat)) (am_get (am_put ω (am_get ω l0.toNat 9).toNat l2.toNat (am_get ω l1.toNat (am_w (24 + l2)).toNat)) l0.toNat 10).toNat l2.toNat (am_get (am_put ω (am_get ω l0.toNat 9).toNat l2.toNat (am_get ω l1.toNat (am_w (24 + l2)).toNat)) l1.toNat (am_w (30 + l2)).toNat))) else none) else none) else none) else none := by
  refine Eq.trans (rr_aload_n rfl rfl) ?_
  refine Eq.trans (rr_getfr rfl rfl rfl h1) ?_
  refine Eq.trans (rr_iload_n rfl rfl) ?_
  refine Eq.trans (rr_aload_n rfl rfl) ?_
  refine Eq.trans (rr_bipush rfl rfl) ?_
  refine Eq.trans (rr_iload_n rfl rfl) ?_
  refine Eq.trans (rr_iadd rfl) ?_
  refine ck_it (fun h => rr_iaload rfl rfl h) (fun h => rr_iaload_no rfl rfl h) (fun h2 => ?_)
  refine ck_it (fun h => rr_iastore rfl h) (fun h => rr_iastore_no rfl h) (fun h3 => ?_)
  refine Eq.trans (rr_aload_n rfl rfl) ?_
  refine Eq.trans (rr_getfr rfl rfl rfl h1) ?_
  refine Eq.trans (rr_iload_n rfl rfl) ?_
  refine Eq.trans (rr_aload_n rfl rfl) ?_
  refine Eq.trans (rr_bipush rfl rfl) ?_
  refine Eq.trans (rr_iload_n rfl rfl) ?_
  refine Eq.trans (rr_iadd rfl) ?_
  refine ck_it (fun h => rr_iaload rfl rfl h) (fun h => rr_iaload_no rfl rfl h) (fun h4 => ?_)
  refine ck_it (fun h => rr_iastore rfl h) (fun h => rr_iastore_no rfl h) (fun h5 => ?_)
  rfl
theorem pX7_again__77 (l0 l1 l2 : Int) (ω : am_W) (h1 : am_is ω l0 (7, 30) = true) : am_run (230, 0) 77 ([some (.inr (.inr l0)), some (.inr (.inr l1)), some (.inl l2)], [], ω) = if am_in ω l1 100 (am_w (36 + l2)) = true then (if am_in ω (am_get ω l0.toNat 11) 100 l2 = true then (am_run (230, 0) 2 ([some (.inr (.inr l0)), some (.inr (.inr l1)), some (.inl (am_w (l2 + 1)))], [], am_put ω (am_get ω l0.toNat 11).toNat l2.toNat (am_get ω l1.toNat (am_w (36 + l2)).toNat))) else none) else none := by
  refine Eq.trans (rr_aload_n rfl rfl) ?_
  refine Eq.trans (rr_getfr rfl rfl rfl h1) ?_
  refine Eq.trans (rr_iload_n rfl rfl) ?_
  refine Eq.trans (rr_aload_n rfl rfl) ?_
  refine Eq.trans (rr_bipush rfl rfl) ?_
  refine Eq.trans (rr_iload_n rfl rfl) ?_
  refine Eq.trans (rr_iadd rfl) ?_
  refine ck_it (fun h => rr_iaload rfl rfl h) (fun h => rr_iaload_no rfl rfl h) (fun h2 => ?_)
  refine ck_it (fun h => rr_iastore rfl h) (fun h => rr_iastore_no rfl h) (fun h3 => ?_)
  refine Eq.trans (rr_iinc (L' := [some (.inr (.inr l0)), some (.inr (.inr l1)), some (.inl (am_w (l2 + 1)))]) rfl rfl rfl) ?_
  refine Eq.trans (rr_goto rfl rfl) ?_
  rfl
theorem pX7_again__103 (l0 l1 l2 : Int) (ω : am_W) (h2 : am_is ω l0 (7, 30) = true) : am_run (230, 0) 103 ([some (.inr (.inr l0)), some (.inr (.inr l1)), some (.inl l2)], [], ω) = if am_in ω l1 100 43 = true then (if am_in (am_put ω l0.toNat 6 (am_get ω l1.toNat 43)) l1 100 44 = true then (am_run (230, 0) 119 ([some (.inr (.inr l0)), some (.inr (.inr l1)), some (.inl l2)], [], am_put (am_put ω l0.toNat 6 (am_get ω l1.toNat 43)) l0.toNat 12 (am_get (am_put ω l0.toNat 6 (am_get ω l1.toNat 43)) l1.toNat 44))) else none) else none := by
  refine Eq.trans (rr_aload_n rfl rfl) ?_
  refine Eq.trans (rr_aload_n rfl rfl) ?_
  refine Eq.trans (rr_bipush rfl rfl) ?_
  refine ck_it (fun h => rr_iaload rfl rfl h) (fun h => rr_iaload_no rfl rfl h) (fun h1 => ?_)
  refine Eq.trans (rr_putfieldi rfl rfl rfl h2) ?_
  refine Eq.trans (rr_aload_n rfl rfl) ?_
  refine Eq.trans (rr_aload_n rfl rfl) ?_
  refine Eq.trans (rr_bipush rfl rfl) ?_
  refine ck_it (fun h => rr_iaload rfl rfl h) (fun h => rr_iaload_no rfl rfl h) (fun h3 => ?_)
  refine Eq.trans (rr_putfieldi rfl rfl rfl h2) ?_
  rfl
theorem pX7_again__119 (l0 l1 l2 : Int) (ω : am_W) (h2 : am_is ω l0 (7, 30) = true) : am_run (230, 0) 119 ([some (.inr (.inr l0)), some (.inr (.inr l1)), some (.inl l2)], [], ω) = if am_in ω l1 100 45 = true then (if am_in (am_put ω l0.toNat 13 (am_get ω l1.toNat 45)) l1 100 46 = true then (some (none, am_put (am_put ω l0.toNat 13 (am_get ω l1.toNat 45)) l0.toNat 14 (am_get (am_put ω l0.toNat 13 (am_get ω l1.toNat 45)) l1.toNat 46))) else none) else none := by
  refine Eq.trans (rr_aload_n rfl rfl) ?_
  refine Eq.trans (rr_aload_n rfl rfl) ?_
  refine Eq.trans (rr_bipush rfl rfl) ?_
  refine ck_it (fun h => rr_iaload rfl rfl h) (fun h => rr_iaload_no rfl rfl h) (fun h1 => ?_)
  refine Eq.trans (rr_putfieldi rfl rfl rfl h2) ?_
  refine Eq.trans (rr_aload_n rfl rfl) ?_
  refine Eq.trans (rr_aload_n rfl rfl) ?_
  refine Eq.trans (rr_bipush rfl rfl) ?_
  refine ck_it (fun h => rr_iaload rfl rfl h) (fun h => rr_iaload_no rfl rfl h) (fun h3 => ?_)
  refine Eq.trans (rr_putfieldi rfl rfl rfl h2) ?_
  exact rr_return rfl rfl
theorem pX7_image_0 (l0 : Int) (ω : am_W) (h1 : am_is ω l0 (7, 30) = true) : am_run (231, 0) 0 ([some (.inr (.inr l0))], [], ω) = am_bv (am_run (229, 0) 0 ([some (.inr (.inr l0)), some (.inr (.inr (am_get (am_put ω l0.toNat 22 1) l0.toNat 23))), none], [], am_put ω l0.toNat 22 1)) (fun ω1 => some (some (.inl 1), ω1)) := by
  refine Eq.trans (rr_aload_n rfl rfl) ?_
  refine Eq.trans (rr_iconst rfl rfl) ?_
  refine Eq.trans (rr_putfieldi rfl rfl rfl h1) ?_
  refine Eq.trans (rr_aload_n rfl rfl) ?_
  refine Eq.trans (rr_aload_n rfl rfl) ?_
  refine Eq.trans (rr_getfr rfl rfl rfl h1) ?_
  refine Eq.trans (rr_invV0v (S' := []) (L' := [some (.inr (.inr l0)), some (.inr (.inr (am_get (am_put ω l0.toNat 22 1) l0.toNat 23))), none]) (m' := (229, 0)) rfl rfl rfl rfl rfl rfl h1) ?_
  refine bv_cg (fun ω1 => ?_)
  refine Eq.trans (rr_iconst rfl rfl) ?_
  exact rr_ireturn rfl rfl
theorem pX7_back_0 (l0 : Int) (ω : am_W) (h1 : am_is ω l0 (7, 30) = true) : am_run (232, 0) 0 ([some (.inr (.inr l0)), none], [], ω) = if ¬ (am_get ω l0.toNat 22) = 0 then (am_bv (am_run (230, 0) 0 ([some (.inr (.inr l0)), some (.inr (.inr (am_get ω l0.toNat 23))), none], [], ω)) (fun ω1 => am_run (232, 0) 24 ([some (.inr (.inr l0)), some (.inl 0)], [], ω1))) else (am_bi (am_run (148, 0) 0 ([some (.inr (.inr l0)), some (.inl ((-5)))], [], ω)) (fun z2 ω2 => some (some (.inl z2), ω2))) := by
  refine Eq.trans (rr_aload_n rfl rfl) ?_
  refine Eq.trans (rr_getfi rfl rfl rfl h1) ?_
  refine Eq.trans (rr_if_ne rfl rfl) (it_cg (fun _ => ?_) (fun _ => ?_))
  · refine Eq.trans (rr_aload_n rfl rfl) ?_
    refine Eq.trans (rr_aload_n rfl rfl) ?_
    refine Eq.trans (rr_getfr rfl rfl rfl h1) ?_
    refine Eq.trans (rr_invV0v (S' := []) (L' := [some (.inr (.inr l0)), some (.inr (.inr (am_get ω l0.toNat 23))), none]) (m' := (230, 0)) rfl rfl rfl rfl rfl rfl h1) ?_
    refine bv_cg (fun ω1 => ?_)
    refine Eq.trans (rr_iconst rfl rfl) ?_
    refine Eq.trans (rr_istore_n (L' := [some (.inr (.inr l0)), some (.inl 0)]) rfl rfl) ?_
    rfl
  · refine Eq.trans (rr_aload_n rfl rfl) ?_
    refine Eq.trans (rr_bipush rfl rfl) ?_
    refine Eq.trans (rr_invV0i (S' := []) (L' := [some (.inr (.inr l0)), some (.inl ((-5)))]) (m' := (148, 0)) rfl rfl rfl rfl rfl rfl h1) ?_
    refine bi_cg (fun z2 ω2 => ?_)
    exact rr_ireturn rfl rfl
theorem pX7_back_24 (l0 l1 : Int) (ω : am_W) (h1 : am_is ω l0 (7, 30) = true) : am_run (232, 0) 24 ([some (.inr (.inr l0)), some (.inl l1)], [], ω) = if 8 ≤ l1 then (some (some (.inl 1), ω)) else (if am_in ω (am_get ω l0.toNat 0) 100 l1 = true then (if (am_get ω (am_get ω l0.toNat 0).toNat l1.toNat) < (am_w (10 + (am_get ω l0.toNat 6))) then (am_run (232, 0) 24 ([some (.inr (.inr l0)), some (.inl (am_w (l1 + 1)))], [], ω)) else (am_run (232, 0) 24 ([some (.inr (.inr l0)), some (.inl (am_w (l1 + 1)))], [], am_put ω (am_get ω l0.toNat 0).toNat l1.toNat ((-1))))) else none) := by
  refine Eq.trans (rr_iload_n rfl rfl) ?_
  refine Eq.trans (rr_bipush rfl rfl) ?_
  refine Eq.trans (rr_icmp_ge rfl rfl) (it_cg (fun _ => ?_) (fun _ => ?_))
  · refine Eq.trans (rr_iconst rfl rfl) ?_
    exact rr_ireturn rfl rfl
  · refine Eq.trans (rr_aload_n rfl rfl) ?_
    refine Eq.trans (rr_getfr rfl rfl rfl h1) ?_
    refine Eq.trans (rr_iload_n rfl rfl) ?_
    refine ck_it (fun h => rr_iaload rfl rfl h) (fun h => rr_iaload_no rfl rfl h) (fun h2 => ?_)
    refine Eq.trans (rr_bipush rfl rfl) ?_
    refine Eq.trans (rr_aload_n rfl rfl) ?_
    refine Eq.trans (rr_getfi rfl rfl rfl h1) ?_
    refine Eq.trans (rr_iadd rfl) ?_
    refine Eq.trans (rr_icmp_lt rfl rfl) (it_cg (fun _ => ?_) (fun _ => ?_))
    · refine Eq.trans (rr_iinc (L' := [some (.inr (.inr l0)), some (.inl (am_w (l1 + 1)))]) rfl rfl rfl) ?_
      refine Eq.trans (rr_goto rfl rfl) ?_
      rfl
    · refine Eq.trans (rr_aload_n rfl rfl) ?_
      refine Eq.trans (rr_getfr rfl rfl rfl h1) ?_
      refine Eq.trans (rr_iload_n rfl rfl) ?_
      refine Eq.trans (rr_iconst rfl rfl) ?_
      refine Eq.trans (rr_iastore rfl h2) ?_
      refine Eq.trans (rr_iinc (L' := [some (.inr (.inr l0)), some (.inl (am_w (l1 + 1)))]) rfl rfl rfl) ?_
      refine Eq.trans (rr_goto rfl rfl) ?_
      rfl
theorem pX7_status_0 (l0 l1 : Int) (ω : am_W) (h2 : am_is ω l0 (7, 30) = true) : am_run (233, 0) 0 ([some (.inr (.inr l0)), some (.inl l1), none, none], [], ω) = if l1 = 0 then (some (some (.inl (am_get ω l0.toNat 3)), ω)) else if l1 = 1 then (some (some (.inl (am_get ω l0.toNat 6)), ω)) else if l1 = 2 then (some (some (.inl (am_get ω l0.toNat 12)), ω)) else if l1 = 3 then (some (some (.inl (am_get ω l0.toNat 13)), ω)) else if l1 = 4 then (am_run (233, 0) 74 ([some (.inr (.inr l0)), some (.inl l1), some (.inl 0), some (.inl 0)], [], ω)) else if l1 = 5 then (am_run (233, 0) 101 ([some (.inr (.inr l0)), some (.inl l1), some (.inl 0), some (.inl 0)], [], ω)) else if l1 = 6 then (some (some (.inl (am_get ω l0.toNat 15)), ω)) else if l1 = 7 then (some (some (.inl (am_get ω l0.toNat 14)), ω)) else if l1 = 8 then (am_run (233, 0) 144 ([some (.inr (.inr l0)), some (.inl l1), some (.inl 0), some (.inl 0)], [], ω)) else (am_bi (am_run (149, 0) 0 ([some (.inl l1), some (.inl 12), some (.inl 16)], [], ω)) (fun z1 ω1 => if z1 = 0 then (some (some (.inl ((-1))), ω1)) else (if am_is ω1 l0 (7, 30) = true then (if am_in ω1 (am_get ω1 l0.toNat 21) 100 (am_w (l1 - 10)) = true then (some (some (.inl (am_get ω1 (am_get ω1 l0.toNat 21).toNat (am_w (l1 - 10)).toNat)), ω1)) else none) else none))) := by
  refine Eq.trans (rr_iconst rfl rfl) ?_
  refine Eq.trans (rr_istore_n (L' := [some (.inr (.inr l0)), some (.inl l1), some (.inl 0), none]) rfl rfl) ?_
  refine Eq.trans (rr_iload_n rfl rfl) ?_
  refine sw_it (fun q1 => Eq.trans (rr_tsw rfl (by rw [q1]; rfl) rfl) ?_) (fun q1 => ?_)
  · refine Eq.trans (rr_aload_n rfl rfl) ?_
    refine Eq.trans (rr_getfi rfl rfl rfl h2) ?_
    exact rr_ireturn rfl rfl
  refine sw_it (fun q3 => Eq.trans (rr_tsw rfl (by rw [q3]; rfl) rfl) ?_) (fun q3 => ?_)
  · refine Eq.trans (rr_aload_n rfl rfl) ?_
    refine Eq.trans (rr_getfi rfl rfl rfl h2) ?_
    exact rr_ireturn rfl rfl
  refine sw_it (fun q4 => Eq.trans (rr_tsw rfl (by rw [q4]; rfl) rfl) ?_) (fun q4 => ?_)
  · refine Eq.trans (rr_aload_n rfl rfl) ?_
    refine Eq.trans (rr_getfi rfl rfl rfl h2) ?_
    exact rr_ireturn rfl rfl
  refine sw_it (fun q5 => Eq.trans (rr_tsw rfl (by rw [q5]; rfl) rfl) ?_) (fun q5 => ?_)
  · refine Eq.trans (rr_aload_n rfl rfl) ?_
    refine Eq.trans (rr_getfi rfl rfl rfl h2) ?_
    exact rr_ireturn rfl rfl
  refine sw_it (fun q6 => Eq.trans (rr_tsw rfl (by rw [q6]; rfl) rfl) ?_) (fun q6 => ?_)
  · refine Eq.trans (rr_iconst rfl rfl) ?_
    refine Eq.trans (rr_istore_n (L' := [some (.inr (.inr l0)), some (.inl l1), some (.inl 0), some (.inl 0)]) rfl rfl) ?_
    rfl
  refine sw_it (fun q7 => Eq.trans (rr_tsw rfl (by rw [q7]; rfl) rfl) ?_) (fun q7 => ?_)
  · refine Eq.trans (rr_iconst rfl rfl) ?_
    refine Eq.trans (rr_istore_n (L' := [some (.inr (.inr l0)), some (.inl l1), some (.inl 0), some (.inl 0)]) rfl rfl) ?_
    rfl
  refine sw_it (fun q8 => Eq.trans (rr_tsw rfl (by rw [q8]; rfl) rfl) ?_) (fun q8 => ?_)
  · refine Eq.trans (rr_aload_n rfl rfl) ?_
    refine Eq.trans (rr_getfi rfl rfl rfl h2) ?_
    exact rr_ireturn rfl rfl
  refine sw_it (fun q9 => Eq.trans (rr_tsw rfl (by rw [q9]; rfl) rfl) ?_) (fun q9 => ?_)
  · refine Eq.trans (rr_aload_n rfl rfl) ?_
    refine Eq.trans (rr_getfi rfl rfl rfl h2) ?_
    exact rr_ireturn rfl rfl
  refine sw_it (fun q10 => Eq.trans (rr_tsw rfl (by rw [q10]; rfl) rfl) ?_) (fun q10 => ?_)
  · refine Eq.trans (rr_iconst rfl rfl) ?_
    refine Eq.trans (rr_istore_n (L' := [some (.inr (.inr l0)), some (.inl l1), some (.inl 0), some (.inl 0)]) rfl rfl) ?_
    rfl
  refine Eq.trans (rr_tsw rfl (am_tsw_out (by omega)) rfl) ?_
  refine Eq.trans (rr_iload_n rfl rfl) ?_
  refine Eq.trans (rr_bipush rfl rfl) ?_
  refine Eq.trans (rr_bipush rfl rfl) ?_
  refine Eq.trans (rr_invS2i (S' := []) (L' := [some (.inl l1), some (.inl 12), some (.inl 16)]) (m' := (149, 0)) rfl rfl rfl rfl rfl rfl) ?_
  refine bi_cg (fun z1 ω1 => ?_)
  refine Eq.trans (rr_if_eq rfl rfl) (it_cg (fun _ => ?_) (fun _ => ?_))
  · refine Eq.trans (rr_iconst rfl rfl) ?_
    exact rr_ireturn rfl rfl
  · refine Eq.trans (rr_aload_n rfl rfl) ?_
    refine ck_it (fun h => rr_getfr rfl rfl rfl h) (fun h => rr_getfield_no rfl rfl h) (fun h11 => ?_)
    refine Eq.trans (rr_iload_n rfl rfl) ?_
    refine Eq.trans (rr_bipush rfl rfl) ?_
    refine Eq.trans (rr_isub rfl) ?_
    refine ck_it (fun h => rr_iaload rfl rfl h) (fun h => rr_iaload_no rfl rfl h) (fun h12 => ?_)
    refine Eq.trans (rr_goto rfl rfl) ?_
    exact rr_ireturn rfl rfl
theorem pX7_status_74 (l0 l1 l2 l3 : Int) (ω : am_W) (h1 : am_is ω l0 (7, 30) = true) : am_run (233, 0) 74 ([some (.inr (.inr l0)), some (.inl l1), some (.inl l2), some (.inl l3)], [], ω) = if (am_get ω l0.toNat 6) ≤ l3 then (some (some (.inl l2), ω)) else (if am_in ω (am_get ω l0.toNat 10) 100 l3 = true then (am_run (233, 0) 74 ([some (.inr (.inr l0)), some (.inl l1), some (.inl (am_w (l2 + (am_get ω (am_get ω l0.toNat 10).toNat l3.toNat)))), some (.inl (am_w (l3 + 1)))], [], ω)) else none) := by
  refine Eq.trans (rr_iload_n rfl rfl) ?_
  refine Eq.trans (rr_aload_n rfl rfl) ?_
  refine Eq.trans (rr_getfi rfl rfl rfl h1) ?_
  refine Eq.trans (rr_icmp_ge rfl rfl) (it_cg (fun _ => ?_) (fun _ => ?_))
  · refine Eq.trans (rr_iload_n rfl rfl) ?_
    exact rr_ireturn rfl rfl
  · refine Eq.trans (rr_iload_n rfl rfl) ?_
    refine Eq.trans (rr_aload_n rfl rfl) ?_
    refine Eq.trans (rr_getfr rfl rfl rfl h1) ?_
    refine Eq.trans (rr_iload_n rfl rfl) ?_
    refine ck_it (fun h => rr_iaload rfl rfl h) (fun h => rr_iaload_no rfl rfl h) (fun h2 => ?_)
    refine Eq.trans (rr_iadd rfl) ?_
    refine Eq.trans (rr_istore_n (L' := [some (.inr (.inr l0)), some (.inl l1), some (.inl (am_w (l2 + (am_get ω (am_get ω l0.toNat 10).toNat l3.toNat)))), some (.inl l3)]) rfl rfl) ?_
    refine Eq.trans (rr_iinc (L' := [some (.inr (.inr l0)), some (.inl l1), some (.inl (am_w (l2 + (am_get ω (am_get ω l0.toNat 10).toNat l3.toNat)))), some (.inl (am_w (l3 + 1)))]) rfl rfl rfl) ?_
    refine Eq.trans (rr_goto rfl rfl) ?_
    rfl
theorem pX7_status_101 (l0 l1 l2 l3 : Int) (ω : am_W) (h1 : am_is ω l0 (7, 30) = true) : am_run (233, 0) 101 ([some (.inr (.inr l0)), some (.inl l1), some (.inl l2), some (.inl l3)], [], ω) = if (am_get ω l0.toNat 6) ≤ l3 then (some (some (.inl l2), ω)) else (if am_in ω (am_get ω l0.toNat 11) 100 l3 = true then (if (am_get ω (am_get ω l0.toNat 11).toNat l3.toNat) ≤ 0 then (am_run (233, 0) 101 ([some (.inr (.inr l0)), some (.inl l1), some (.inl l2), some (.inl (am_w (l3 + 1)))], [], ω)) else (am_run (233, 0) 101 ([some (.inr (.inr l0)), some (.inl l1), some (.inl (am_or l2 (am_shl 1 l3))), some (.inl (am_w (l3 + 1)))], [], ω))) else none) := by
  refine Eq.trans (rr_iload_n rfl rfl) ?_
  refine Eq.trans (rr_aload_n rfl rfl) ?_
  refine Eq.trans (rr_getfi rfl rfl rfl h1) ?_
  refine Eq.trans (rr_icmp_ge rfl rfl) (it_cg (fun _ => ?_) (fun _ => ?_))
  · refine Eq.trans (rr_iload_n rfl rfl) ?_
    exact rr_ireturn rfl rfl
  · refine Eq.trans (rr_aload_n rfl rfl) ?_
    refine Eq.trans (rr_getfr rfl rfl rfl h1) ?_
    refine Eq.trans (rr_iload_n rfl rfl) ?_
    refine ck_it (fun h => rr_iaload rfl rfl h) (fun h => rr_iaload_no rfl rfl h) (fun h2 => ?_)
    refine Eq.trans (rr_if_le rfl rfl) (it_cg (fun _ => ?_) (fun _ => ?_))
    · refine Eq.trans (rr_iinc (L' := [some (.inr (.inr l0)), some (.inl l1), some (.inl l2), some (.inl (am_w (l3 + 1)))]) rfl rfl rfl) ?_
      refine Eq.trans (rr_goto rfl rfl) ?_
      rfl
    · refine Eq.trans (rr_iload_n rfl rfl) ?_
      refine Eq.trans (rr_iconst rfl rfl) ?_
      refine Eq.trans (rr_iload_n rfl rfl) ?_
      refine Eq.trans (rr_ishl rfl) ?_
      refine Eq.trans (rr_ior rfl) ?_
      refine Eq.trans (rr_istore_n (L' := [some (.inr (.inr l0)), some (.inl l1), some (.inl (am_or l2 (am_shl 1 l3))), some (.inl l3)]) rfl rfl) ?_
      refine Eq.trans (rr_iinc (L' := [some (.inr (.inr l0)), some (.inl l1), some (.inl (am_or l2 (am_shl 1 l3))), some (.inl (am_w (l3 + 1)))]) rfl rfl rfl) ?_
      refine Eq.trans (rr_goto rfl rfl) ?_
      rfl
theorem pX7_status_144 (l0 l1 l2 l3 : Int) (ω : am_W) (h1 : am_is ω l0 (7, 30) = true) : am_run (233, 0) 144 ([some (.inr (.inr l0)), some (.inl l1), some (.inl l2), some (.inl l3)], [], ω) = if 8 ≤ l3 then (some (some (.inl l2), ω)) else (if am_in ω (am_get ω l0.toNat 0) 100 l3 = true then (if (am_get ω (am_get ω l0.toNat 0).toNat l3.toNat) = ((-1)) then (am_run (233, 0) 144 ([some (.inr (.inr l0)), some (.inl l1), some (.inl l2), some (.inl (am_w (l3 + 1)))], [], ω)) else (am_run (233, 0) 144 ([some (.inr (.inr l0)), some (.inl l1), some (.inl (am_w (l2 + 1))), some (.inl (am_w (l3 + 1)))], [], ω))) else none) := by
  refine Eq.trans (rr_iload_n rfl rfl) ?_
  refine Eq.trans (rr_bipush rfl rfl) ?_
  refine Eq.trans (rr_icmp_ge rfl rfl) (it_cg (fun _ => ?_) (fun _ => ?_))
  · refine Eq.trans (rr_iload_n rfl rfl) ?_
    exact rr_ireturn rfl rfl
  · refine Eq.trans (rr_aload_n rfl rfl) ?_
    refine Eq.trans (rr_getfr rfl rfl rfl h1) ?_
    refine Eq.trans (rr_iload_n rfl rfl) ?_
    refine ck_it (fun h => rr_iaload rfl rfl h) (fun h => rr_iaload_no rfl rfl h) (fun h2 => ?_)
    refine Eq.trans (rr_iconst rfl rfl) ?_
    refine Eq.trans (rr_icmp_eq rfl rfl) (it_cg (fun _ => ?_) (fun _ => ?_))
    · refine Eq.trans (rr_iinc (L' := [some (.inr (.inr l0)), some (.inl l1), some (.inl l2), some (.inl (am_w (l3 + 1)))]) rfl rfl rfl) ?_
      refine Eq.trans (rr_goto rfl rfl) ?_
      rfl
    · refine Eq.trans (rr_iinc (L' := [some (.inr (.inr l0)), some (.inl l1), some (.inl (am_w (l2 + 1))), some (.inl l3)]) rfl rfl rfl) ?_
      refine Eq.trans (rr_iinc (L' := [some (.inr (.inr l0)), some (.inl l1), some (.inl (am_w (l2 + 1))), some (.inl (am_w (l3 + 1)))]) rfl rfl rfl) ?_
      refine Eq.trans (rr_goto rfl rfl) ?_
      rfl
