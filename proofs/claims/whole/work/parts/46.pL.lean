theorem pL_law_0 (ω : am_W) : am_run (240, 0) 0 ([some (.inr (.inr ((-2)))), none, none, none], [], ω) = if am_is (am_new ω (6, 10) (am_d0 6)) (((ω).1.length : Int)) (6, 10) = true then (am_bv (am_run (83, 0) 0 ([some (.inr (.inr (((ω).1.length : Int)))), none], [], am_new ω (6, 10) (am_d0 6))) (fun ω2 => if am_is (am_new ω2 (7, 30) (am_d0 7)) (((ω2).1.length : Int)) (7, 30) = true then (am_bv (am_run (147, 0) 0 ([some (.inr (.inr (((ω2).1.length : Int)))), none], [], am_new ω2 (7, 30) (am_d0 7))) (fun ω4 => am_run (240, 0) 18 ([some (.inr (.inr ((-2)))), some (.inr (.inr (((ω).1.length : Int)))), some (.inr (.inr (((ω2).1.length : Int)))), some (.inl 0)], [], ω4))) else none)) else none := by
  refine Eq.trans (rr_new rfl rfl rfl) ?_
  refine Eq.trans (rr_dupr rfl) ?_
  refine ck_it (fun h => rr_invI4v (S' := [.inr (.inr (((ω).1.length : Int)))]) (L' := [some (.inr (.inr (((ω).1.length : Int)))), none]) (m' := (83, 0)) rfl rfl rfl rfl rfl rfl h) (fun h => rr_invI4_no (S' := [.inr (.inr (((ω).1.length : Int)))]) (L' := [some (.inr (.inr (((ω).1.length : Int)))), none]) (m' := (83, 0)) rfl rfl rfl rfl rfl rfl h) (fun h1 => ?_)
  refine bv_cg (fun ω2 => ?_)
  refine Eq.trans (rr_astore_n (L' := [some (.inr (.inr ((-2)))), some (.inr (.inr (((ω).1.length : Int)))), none, none]) rfl rfl) ?_
  refine Eq.trans (rr_new rfl rfl rfl) ?_
  refine Eq.trans (rr_dupr rfl) ?_
  refine ck_it (fun h => rr_invI4v (S' := [.inr (.inr (((ω2).1.length : Int)))]) (L' := [some (.inr (.inr (((ω2).1.length : Int)))), none]) (m' := (147, 0)) rfl rfl rfl rfl rfl rfl h) (fun h => rr_invI4_no (S' := [.inr (.inr (((ω2).1.length : Int)))]) (L' := [some (.inr (.inr (((ω2).1.length : Int)))), none]) (m' := (147, 0)) rfl rfl rfl rfl rfl rfl h) (fun h2 => ?_)
  refine bv_cg (fun ω4 => ?_)
  refine Eq.trans (rr_astore_n (L' := [some (.inr (.inr ((-2)))), some (.inr (.inr (((ω).1.length : Int)))), some (.inr (.inr (((ω2).1.length : Int)))), none]) rfl rfl) ?_
  refine Eq.trans (rr_iconst rfl rfl) ?_
  refine Eq.trans (rr_istore_n (L' := [some (.inr (.inr ((-2)))), some (.inr (.inr (((ω).1.length : Int)))), some (.inr (.inr (((ω2).1.length : Int)))), some (.inl 0)]) rfl rfl) ?_
  rfl
theorem pL_law_18 (l1 l2 l3 : Int) (ω : am_W) : am_run (240, 0) 18 ([some (.inr (.inr ((-2)))), some (.inr (.inr l1)), some (.inr (.inr l2)), some (.inl l3)], [], ω) = if (am_w (((ω.2.2.1 : Int)) - 6)) < l3 then (some (some (.inl 1), ω)) else (if (decide (0 ≤ l3) && decide (l3 < (ω.2.2.1 : Int))) = true then (if (am_and (ω.2.2.2 l3.toNat) 63) = 0 then (am_run (240, 0) 224 ([some (.inr (.inr ((-2)))), some (.inr (.inr l1)), some (.inr (.inr l2)), some (.inl l3)], [], ω)) else if (am_and (ω.2.2.2 l3.toNat) 63) = 1 then (am_run (240, 0) 267 ([some (.inr (.inr ((-2)))), some (.inr (.inr l1)), some (.inr (.inr l2)), some (.inl l3)], [], ω)) else if (am_and (ω.2.2.2 l3.toNat) 63) = 2 then (am_run (240, 0) 340 ([some (.inr (.inr ((-2)))), some (.inr (.inr l1)), some (.inr (.inr l2)), some (.inl l3)], [], ω)) else if (am_and (ω.2.2.2 l3.toNat) 63) = 3 then (am_run (240, 0) 403 ([some (.inr (.inr ((-2)))), some (.inr (.inr l1)), some (.inr (.inr l2)), some (.inl l3)], [], ω)) else if (am_and (ω.2.2.2 l3.toNat) 63) = 4 then (am_run (240, 0) 437 ([some (.inr (.inr ((-2)))), some (.inr (.inr l1)), some (.inr (.inr l2)), some (.inl l3)], [], ω)) else if (am_and (ω.2.2.2 l3.toNat) 63) = 5 then (am_run (240, 0) 460 ([some (.inr (.inr ((-2)))), some (.inr (.inr l1)), some (.inr (.inr l2)), some (.inl l3)], [], ω)) else if (am_and (ω.2.2.2 l3.toNat) 63) = 6 then (am_run (240, 0) 493 ([some (.inr (.inr ((-2)))), some (.inr (.inr l1)), some (.inr (.inr l2)), some (.inl l3)], [], ω)) else if (am_and (ω.2.2.2 l3.toNat) 63) = 7 then (am_run (240, 0) 526 ([some (.inr (.inr ((-2)))), some (.inr (.inr l1)), some (.inr (.inr l2)), some (.inl l3)], [], ω)) else if (am_and (ω.2.2.2 l3.toNat) 63) = 8 then (am_run (240, 0) 549 ([some (.inr (.inr ((-2)))), some (.inr (.inr l1)), some (.inr (.inr l2)), some (.inl l3)], [], ω)) else if (am_and (ω.2.2.2 l3.toNat) 63) = 9 then (am_run (240, 0) 582 ([some (.inr (.inr ((-2)))), some (.inr (.inr l1)), some (.inr (.inr l2)), some (.inl l3)], [], ω)) else if (am_and (ω.2.2.2 l3.toNat) 63) = 10 then (am_run (240, 0) 615 ([some (.inr (.inr ((-2)))), some (.inr (.inr l1)), some (.inr (.inr l2)), some (.inl l3)], [], ω)) else if (am_and (ω.2.2.2 l3.toNat) 63) = 11 then (am_run (240, 0) 668 ([some (.inr (.inr ((-2)))), some (.inr (.inr l1)), some (.inr (.inr l2)), some (.inl l3)], [], ω)) else if (am_and (ω.2.2.2 l3.toNat) 63) = 12 then (am_run (240, 0) 701 ([some (.inr (.inr ((-2)))), some (.inr (.inr l1)), some (.inr (.inr l2)), some (.inl l3)], [], ω)) else if (am_and (ω.2.2.2 l3.toNat) 63) = 13 then (am_run (240, 0) 724 ([some (.inr (.inr ((-2)))), some (.inr (.inr l1)), some (.inr (.inr l2)), some (.inl l3)], [], ω)) else if (am_and (ω.2.2.2 l3.toNat) 63) = 14 then (am_run (240, 0) 737 ([some (.inr (.inr ((-2)))), some (.inr (.inr l1)), some (.inr (.inr l2)), some (.inl l3)], [], ω)) else if (am_and (ω.2.2.2 l3.toNat) 63) = 15 then (am_run (240, 0) 750 ([some (.inr (.inr ((-2)))), some (.inr (.inr l1)), some (.inr (.inr l2)), some (.inl l3)], [], ω)) else if (am_and (ω.2.2.2 l3.toNat) 63) = 16 then (am_run (240, 0) 783 ([some (.inr (.inr ((-2)))), some (.inr (.inr l1)), some (.inr (.inr l2)), some (.inl l3)], [], ω)) else if (am_and (ω.2.2.2 l3.toNat) 63) = 17 then (am_run (240, 0) 816 ([some (.inr (.inr ((-2)))), some (.inr (.inr l1)), some (.inr (.inr l2)), some (.inl l3)], [], ω)) else if (am_and (ω.2.2.2 l3.toNat) 63) = 18 then (am_run (240, 0) 849 ([some (.inr (.inr ((-2)))), some (.inr (.inr l1)), some (.inr (.inr l2)), some (.inl l3)], [], ω)) else if (am_and (ω.2.2.2 l3.toNat) 63) = 19 then (am_run (240, 0) 892 ([some (.inr (.inr ((-2)))), some (.inr (.inr l1)), some (.inr (.inr l2)), some (.inl l3)], [], ω)) else if (am_and (ω.2.2.2 l3.toNat) 63) = 20 then (am_run (240, 0) 925 ([some (.inr (.inr ((-2)))), some (.inr (.inr l1)), some (.inr (.inr l2)), some (.inl l3)], [], ω)) else if (am_and (ω.2.2.2 l3.toNat) 63) = 21 then (am_run (240, 0) 968 ([some (.inr (.inr ((-2)))), some (.inr (.inr l1)), some (.inr (.inr l2)), some (.inl l3)], [], ω)) else if (am_and (ω.2.2.2 l3.toNat) 63) = 22 then (am_run (240, 0) 1021 ([some (.inr (.inr ((-2)))), some (.inr (.inr l1)), some (.inr (.inr l2)), some (.inl l3)], [], ω)) else if (am_and (ω.2.2.2 l3.toNat) 63) = 23 then (am_run (240, 0) 1074 ([some (.inr (.inr ((-2)))), some (.inr (.inr l1)), some (.inr (.inr l2)), some (.inl l3)], [], ω)) else if (am_and (ω.2.2.2 l3.toNat) 63) = 24 then (am_run (240, 0) 1117 ([some (.inr (.inr ((-2)))), some (.inr (.inr l1)), some (.inr (.inr l2)), some (.inl l3)], [], ω)) else if (am_and (ω.2.2.2 l3.toNat) 63) = 25 then (am_run (240, 0) 1150 ([some (.inr (.inr ((-2)))), some (.inr (.inr l1)), some (.inr (.inr l2)), some (.inl l3)], [], ω)) else if (am_and (ω.2.2.2 l3.toNat) 63) = 26 then (am_run (240, 0) 1193 ([some (.inr (.inr ((-2)))), some (.inr (.inr l1)), some (.inr (.inr l2)), some (.inl l3)], [], ω)) else if (am_and (ω.2.2.2 l3.toNat) 63) = 27 then (am_run (240, 0) 1236 ([some (.inr (.inr ((-2)))), some (.inr (.inr l1)), some (.inr (.inr l2)), some (.inl l3)], [], ω)) else if (am_and (ω.2.2.2 l3.toNat) 63) = 28 then (am_run (240, 0) 1269 ([some (.inr (.inr ((-2)))), some (.inr (.inr l1)), some (.inr (.inr l2)), some (.inl l3)], [], ω)) else if (am_and (ω.2.2.2 l3.toNat) 63) = 29 then (am_run (240, 0) 1283 ([some (.inr (.inr ((-2)))), some (.inr (.inr l1)), some (.inr (.inr l2)), some (.inl l3)], [], ω)) else if (am_and (ω.2.2.2 l3.toNat) 63) = 30 then (am_run (240, 0) 1316 ([some (.inr (.inr ((-2)))), some (.inr (.inr l1)), some (.inr (.inr l2)), some (.inl l3)], [], ω)) else if (am_and (ω.2.2.2 l3.toNat) 63) = 31 then (am_run (240, 0) 1349 ([some (.inr (.inr ((-2)))), some (.inr (.inr l1)), some (.inr (.inr l2)), some (.inl l3)], [], ω)) else if (am_and (ω.2.2.2 l3.toNat) 63) = 32 then (am_run (240, 0) 1362 ([some (.inr (.inr ((-2)))), some (.inr (.inr l1)), some (.inr (.inr l2)), some (.inl l3)], [], ω)) else if (am_and (ω.2.2.2 l3.toNat) 63) = 33 then (am_run (240, 0) 1385 ([some (.inr (.inr ((-2)))), some (.inr (.inr l1)), some (.inr (.inr l2)), some (.inl l3)], [], ω)) else if (am_and (ω.2.2.2 l3.toNat) 63) = 34 then (am_run (240, 0) 1428 ([some (.inr (.inr ((-2)))), some (.inr (.inr l1)), some (.inr (.inr l2)), some (.inl l3)], [], ω)) else if (am_and (ω.2.2.2 l3.toNat) 63) = 35 then (am_run (240, 0) 1471 ([some (.inr (.inr ((-2)))), some (.inr (.inr l1)), some (.inr (.inr l2)), some (.inl l3)], [], ω)) else if (am_and (ω.2.2.2 l3.toNat) 63) = 36 then (am_run (240, 0) 1494 ([some (.inr (.inr ((-2)))), some (.inr (.inr l1)), some (.inr (.inr l2)), some (.inl l3)], [], ω)) else if (am_and (ω.2.2.2 l3.toNat) 63) = 37 then (am_run (240, 0) 1527 ([some (.inr (.inr ((-2)))), some (.inr (.inr l1)), some (.inr (.inr l2)), some (.inl l3)], [], ω)) else if (am_and (ω.2.2.2 l3.toNat) 63) = 38 then (am_run (240, 0) 1570 ([some (.inr (.inr ((-2)))), some (.inr (.inr l1)), some (.inr (.inr l2)), some (.inl l3)], [], ω)) else if (am_and (ω.2.2.2 l3.toNat) 63) = 39 then (am_run (240, 0) 1613 ([some (.inr (.inr ((-2)))), some (.inr (.inr l1)), some (.inr (.inr l2)), some (.inl l3)], [], ω)) else if (am_and (ω.2.2.2 l3.toNat) 63) = 40 then (am_run (240, 0) 1636 ([some (.inr (.inr ((-2)))), some (.inr (.inr l1)), some (.inr (.inr l2)), some (.inl l3)], [], ω)) else if (am_and (ω.2.2.2 l3.toNat) 63) = 41 then (am_run (240, 0) 1659 ([some (.inr (.inr ((-2)))), some (.inr (.inr l1)), some (.inr (.inr l2)), some (.inl l3)], [], ω)) else if (am_and (ω.2.2.2 l3.toNat) 63) = 42 then (am_run (240, 0) 1672 ([some (.inr (.inr ((-2)))), some (.inr (.inr l1)), some (.inr (.inr l2)), some (.inl l3)], [], ω)) else if (am_and (ω.2.2.2 l3.toNat) 63) = 43 then (am_run (240, 0) 1685 ([some (.inr (.inr ((-2)))), some (.inr (.inr l1)), some (.inr (.inr l2)), some (.inl l3)], [], ω)) else (am_run (240, 0) 1708 ([some (.inr (.inr ((-2)))), some (.inr (.inr l1)), some (.inr (.inr l2)), some (.inl l3)], [], ω))) else none) := by
  refine Eq.trans (rr_iload_n rfl rfl) ?_
  refine Eq.trans (rr_aload_n rfl rfl) ?_
  refine Eq.trans (rr_scrlen rfl rfl) ?_
  refine Eq.trans (rr_bipush rfl rfl) ?_
  refine Eq.trans (rr_isub rfl) ?_
  refine Eq.trans (rr_icmp_gt rfl rfl) (it_cg (fun _ => ?_) (fun _ => ?_))
  · refine Eq.trans (rr_iconst rfl rfl) ?_
    exact rr_ireturn rfl rfl
  · refine Eq.trans (rr_aload_n rfl rfl) ?_
    refine Eq.trans (rr_iload_n rfl rfl) ?_
    refine ck_it (fun h => rr_scrload rfl rfl h) (fun h => rr_scrload_no rfl rfl h) (fun h1 => ?_)
    refine Eq.trans (rr_bipush rfl rfl) ?_
    refine Eq.trans (rr_iand rfl) ?_
    refine sw_it (fun q2 => Eq.trans (rr_tsw rfl (by rw [q2]; rfl) rfl) ?_) (fun q2 => ?_)
    · rfl
    refine sw_it (fun q3 => Eq.trans (rr_tsw rfl (by rw [q3]; rfl) rfl) ?_) (fun q3 => ?_)
    · rfl
    refine sw_it (fun q4 => Eq.trans (rr_tsw rfl (by rw [q4]; rfl) rfl) ?_) (fun q4 => ?_)
    · rfl
    refine sw_it (fun q5 => Eq.trans (rr_tsw rfl (by rw [q5]; rfl) rfl) ?_) (fun q5 => ?_)
    · rfl
    refine sw_it (fun q6 => Eq.trans (rr_tsw rfl (by rw [q6]; rfl) rfl) ?_) (fun q6 => ?_)
    · rfl
    refine sw_it (fun q7 => Eq.trans (rr_tsw rfl (by rw [q7]; rfl) rfl) ?_) (fun q7 => ?_)
    · rfl
    refine sw_it (fun q8 => Eq.trans (rr_tsw rfl (by rw [q8]; rfl) rfl) ?_) (fun q8 => ?_)
    · rfl
    refine sw_it (fun q9 => Eq.trans (rr_tsw rfl (by rw [q9]; rfl) rfl) ?_) (fun q9 => ?_)
    · rfl
    refine sw_it (fun q10 => Eq.trans (rr_tsw rfl (by rw [q10]; rfl) rfl) ?_) (fun q10 => ?_)
    · rfl
    refine sw_it (fun q11 => Eq.trans (rr_tsw rfl (by rw [q11]; rfl) rfl) ?_) (fun q11 => ?_)
    · rfl
    refine sw_it (fun q12 => Eq.trans (rr_tsw rfl (by rw [q12]; rfl) rfl) ?_) (fun q12 => ?_)
    · rfl
    refine sw_it (fun q13 => Eq.trans (rr_tsw rfl (by rw [q13]; rfl) rfl) ?_) (fun q13 => ?_)
    · rfl
    refine sw_it (fun q14 => Eq.trans (rr_tsw rfl (by rw [q14]; rfl) rfl) ?_) (fun q14 => ?_)
    · rfl
    refine sw_it (fun q15 => Eq.trans (rr_tsw rfl (by rw [q15]; rfl) rfl) ?_) (fun q15 => ?_)
    · rfl
    refine sw_it (fun q16 => Eq.trans (rr_tsw rfl (by rw [q16]; rfl) rfl) ?_) (fun q16 => ?_)
    · rfl
    refine sw_it (fun q17 => Eq.trans (rr_tsw rfl (by rw [q17]; rfl) rfl) ?_) (fun q17 => ?_)
    · rfl
    refine sw_it (fun q18 => Eq.trans (rr_tsw rfl (by rw [q18]; rfl) rfl) ?_) (fun q18 => ?_)
    · rfl
    refine sw_it (fun q19 => Eq.trans (rr_tsw rfl (by rw [q19]; rfl) rfl) ?_) (fun q19 => ?_)
    · rfl
    refine sw_it (fun q20 => Eq.trans (rr_tsw rfl (by rw [q20]; rfl) rfl) ?_) (fun q20 => ?_)
    · rfl
    refine sw_it (fun q21 => Eq.trans (rr_tsw rfl (by rw [q21]; rfl) rfl) ?_) (fun q21 => ?_)
    · rfl
    refine sw_it (fun q22 => Eq.trans (rr_tsw rfl (by rw [q22]; rfl) rfl) ?_) (fun q22 => ?_)
    · rfl
    refine sw_it (fun q23 => Eq.trans (rr_tsw rfl (by rw [q23]; rfl) rfl) ?_) (fun q23 => ?_)
    · rfl
    refine sw_it (fun q24 => Eq.trans (rr_tsw rfl (by rw [q24]; rfl) rfl) ?_) (fun q24 => ?_)
    · rfl
    refine sw_it (fun q25 => Eq.trans (rr_tsw rfl (by rw [q25]; rfl) rfl) ?_) (fun q25 => ?_)
    · rfl
    refine sw_it (fun q26 => Eq.trans (rr_tsw rfl (by rw [q26]; rfl) rfl) ?_) (fun q26 => ?_)
    · rfl
    refine sw_it (fun q27 => Eq.trans (rr_tsw rfl (by rw [q27]; rfl) rfl) ?_) (fun q27 => ?_)
    · rfl
    refine sw_it (fun q28 => Eq.trans (rr_tsw rfl (by rw [q28]; rfl) rfl) ?_) (fun q28 => ?_)
    · rfl
    refine sw_it (fun q29 => Eq.trans (rr_tsw rfl (by rw [q29]; rfl) rfl) ?_) (fun q29 => ?_)
    · rfl
    refine sw_it (fun q30 => Eq.trans (rr_tsw rfl (by rw [q30]; rfl) rfl) ?_) (fun q30 => ?_)
    · rfl
    refine sw_it (fun q31 => Eq.trans (rr_tsw rfl (by rw [q31]; rfl) rfl) ?_) (fun q31 => ?_)
    · rfl
    refine sw_it (fun q32 => Eq.trans (rr_tsw rfl (by rw [q32]; rfl) rfl) ?_) (fun q32 => ?_)
    · rfl
    refine sw_it (fun q33 => Eq.trans (rr_tsw rfl (by rw [q33]; rfl) rfl) ?_) (fun q33 => ?_)
    · rfl
    refine sw_it (fun q34 => Eq.trans (rr_tsw rfl (by rw [q34]; rfl) rfl) ?_) (fun q34 => ?_)
    · rfl
    refine sw_it (fun q35 => Eq.trans (rr_tsw rfl (by rw [q35]; rfl) rfl) ?_) (fun q35 => ?_)
    · rfl
    refine sw_it (fun q36 => Eq.trans (rr_tsw rfl (by rw [q36]; rfl) rfl) ?_) (fun q36 => ?_)
    · rfl
    refine sw_it (fun q37 => Eq.trans (rr_tsw rfl (by rw [q37]; rfl) rfl) ?_) (fun q37 => ?_)
    · rfl
    refine sw_it (fun q38 => Eq.trans (rr_tsw rfl (by rw [q38]; rfl) rfl) ?_) (fun q38 => ?_)
    · rfl
    refine sw_it (fun q39 => Eq.trans (rr_tsw rfl (by rw [q39]; rfl) rfl) ?_) (fun q39 => ?_)
    · rfl
    refine sw_it (fun q40 => Eq.trans (rr_tsw rfl (by rw [q40]; rfl) rfl) ?_) (fun q40 => ?_)
    · rfl
    refine sw_it (fun q41 => Eq.trans (rr_tsw rfl (by rw [q41]; rfl) rfl) ?_) (fun q41 => ?_)
    · rfl
    refine sw_it (fun q42 => Eq.trans (rr_tsw rfl (by rw [q42]; rfl) rfl) ?_) (fun q42 => ?_)
    · rfl
    refine sw_it (fun q43 => Eq.trans (rr_tsw rfl (by rw [q43]; rfl) rfl) ?_) (fun q43 => ?_)
    · rfl
    refine sw_it (fun q44 => Eq.trans (rr_tsw rfl (by rw [q44]; rfl) rfl) ?_) (fun q44 => ?_)
    · rfl
    refine sw_it (fun q45 => Eq.trans (rr_tsw rfl (by rw [q45]; rfl) rfl) ?_) (fun q45 => ?_)
    · rfl
    refine Eq.trans (rr_tsw rfl (am_tsw_out (by omega)) rfl) ?_
    rfl
theorem pL_law_224 (l1 l2 l3 : Int) (ω : am_W) (h4 : am_is ω l1 (6, 10) = true) : am_run (240, 0) 224 ([some (.inr (.inr ((-2)))), some (.inr (.inr l1)), some (.inr (.inr l2)), some (.inl l3)], [], ω) = if (decide (0 ≤ (am_w (l3 + 1))) && decide ((am_w (l3 + 1)) < (ω.2.2.1 : Int))) = true then (if (decide (0 ≤ (am_w (l3 + 2))) && decide ((am_w (l3 + 2)) < (ω.2.2.1 : Int))) = true then (if (decide (0 ≤ (am_w (l3 + 3))) && decide ((am_w (l3 + 3)) < (ω.2.2.1 : Int))) = true then (am_bi (am_run (84, 0) 0 ([some (.inr (.inr l1)), some (.inl (ω.2.2.2 (am_w (l3 + 1)).toNat)), some (.inl (ω.2.2.2 (am_w (l3 + 2)).toNat)), some (.inl (ω.2.2.2 (am_w (l3 + 3)).toNat))], [], ω)) (fun z1 ω1 => if (decide (0 ≤ (am_w (l3 + 1))) && decide ((am_w (l3 + 1)) < (ω1.2.2.1 : Int))) = true then (if (decide (0 ≤ (am_w (l3 + 2))) && decide ((am_w (l3 + 2)) < (ω1.2.2.1 : Int))) = true then (if (decide (0 ≤ (am_w (l3 + 3))) && decide ((am_w (l3 + 3)) < (ω1.2.2.1 : Int))) = true then (if am_is ω1 l2 (7, 30) = true then (am_bi (am_run (155, 0) 0 ([some (.inr (.inr l2)), some (.inl (ω1.2.2.2 (am_w (l3 + 1)).toNat)), some (.inl (ω1.2.2.2 (am_w (l3 + 2)).toNat)), some (.inl (ω1.2.2.2 (am_w (l3 + 3)).toNat)), none], [], ω1)) (fun z2 ω2 => if z1 = z2 then (am_run (240, 0) 1708 ([some (.inr (.inr ((-2)))), some (.inr (.inr l1)), some (.inr (.inr l2)), some (.inl l3)], [], ω2)) else (some (some (.inl 0), ω2)))) else none) else none) else none) else none)) else none) else none) else none := by
  refine Eq.trans (rr_aload_n rfl rfl) ?_
  refine Eq.trans (rr_aload_n rfl rfl) ?_
  refine Eq.trans (rr_iload_n rfl rfl) ?_
  refine Eq.trans (rr_iconst rfl rfl) ?_
  refine Eq.trans (rr_iadd rfl) ?_
  refine ck_it (fun h => rr_scrload rfl rfl h) (fun h => rr_scrload_no rfl rfl h) (fun h1 => ?_)
  refine Eq.trans (rr_aload_n rfl rfl) ?_
  refine Eq.trans (rr_iload_n rfl rfl) ?_
  refine Eq.trans (rr_iconst rfl rfl) ?_
  refine Eq.trans (rr_iadd rfl) ?_
  refine ck_it (fun h => rr_scrload rfl rfl h) (fun h => rr_scrload_no rfl rfl h) (fun h2 => ?_)
  refine Eq.trans (rr_aload_n rfl rfl) ?_
  refine Eq.trans (rr_iload_n rfl rfl) ?_
  refine Eq.trans (rr_iconst rfl rfl) ?_
  refine Eq.trans (rr_iadd rfl) ?_
  refine ck_it (fun h => rr_scrload rfl rfl h) (fun h => rr_scrload_no rfl rfl h) (fun h3 => ?_)
  refine Eq.trans (rr_invV0i (S' := []) (L' := [some (.inr (.inr l1)), some (.inl (ω.2.2.2 (am_w (l3 + 1)).toNat)), some (.inl (ω.2.2.2 (am_w (l3 + 2)).toNat)), some (.inl (ω.2.2.2 (am_w (l3 + 3)).toNat))]) (m' := (84, 0)) rfl rfl rfl rfl rfl rfl h4) ?_
  refine bi_cg (fun z1 ω1 => ?_)
  refine Eq.trans (rr_aload_n rfl rfl) ?_
  refine Eq.trans (rr_aload_n rfl rfl) ?_
  refine Eq.trans (rr_iload_n rfl rfl) ?_
  refine Eq.trans (rr_iconst rfl rfl) ?_
  refine Eq.trans (rr_iadd rfl) ?_
  refine ck_it (fun h => rr_scrload rfl rfl h) (fun h => rr_scrload_no rfl rfl h) (fun h5 => ?_)
  refine Eq.trans (rr_aload_n rfl rfl) ?_
  refine Eq.trans (rr_iload_n rfl rfl) ?_
  refine Eq.trans (rr_iconst rfl rfl) ?_
  refine Eq.trans (rr_iadd rfl) ?_
  refine ck_it (fun h => rr_scrload rfl rfl h) (fun h => rr_scrload_no rfl rfl h) (fun h6 => ?_)
  refine Eq.trans (rr_aload_n rfl rfl) ?_
  refine Eq.trans (rr_iload_n rfl rfl) ?_
  refine Eq.trans (rr_iconst rfl rfl) ?_
  refine Eq.trans (rr_iadd rfl) ?_
  refine ck_it (fun h => rr_scrload rfl rfl h) (fun h => rr_scrload_no rfl rfl h) (fun h7 => ?_)
  refine ck_it (fun h => rr_invV0i (S' := [.inl z1]) (L' := [some (.inr (.inr l2)), some (.inl (ω1.2.2.2 (am_w (l3 + 1)).toNat)), some (.inl (ω1.2.2.2 (am_w (l3 + 2)).toNat)), some (.inl (ω1.2.2.2 (am_w (l3 + 3)).toNat)), none]) (m' := (155, 0)) rfl rfl rfl rfl rfl rfl h) (fun h => rr_invV0_no (S' := [.inl z1]) (L' := [some (.inr (.inr l2)), some (.inl (ω1.2.2.2 (am_w (l3 + 1)).toNat)), some (.inl (ω1.2.2.2 (am_w (l3 + 2)).toNat)), some (.inl (ω1.2.2.2 (am_w (l3 + 3)).toNat)), none]) (m' := (155, 0)) rfl rfl rfl rfl rfl rfl h) (fun h8 => ?_)
  refine bi_cg (fun z2 ω2 => ?_)
  refine Eq.trans (rr_icmp_eq rfl rfl) (it_cg (fun _ => ?_) (fun _ => ?_))
  · rfl
  · refine Eq.trans (rr_iconst rfl rfl) ?_
    exact rr_ireturn rfl rfl
theorem pL_law_267 (l1 l2 l3 : Int) (ω : am_W) (h5 : am_is ω l1 (6, 10) = true) : am_run (240, 0) 267 ([some (.inr (.inr ((-2)))), some (.inr (.inr l1)), some (.inr (.inr l2)), some (.inl l3)], [], ω) = if (decide (0 ≤ (am_w (l3 + 1))) && decide ((am_w (l3 + 1)) < (ω.2.2.1 : Int))) = true then (if (decide (0 ≤ (am_w (l3 + 2))) && decide ((am_w (l3 + 2)) < (ω.2.2.1 : Int))) = true then (if (decide (0 ≤ (am_w (l3 + 3))) && decide ((am_w (l3 + 3)) < (ω.2.2.1 : Int))) = true then (if (decide (0 ≤ (am_w (l3 + 4))) && decide ((am_w (l3 + 4)) < (ω.2.2.1 : Int))) = true then (am_bi (am_run (85, 0) 0 ([some (.inr (.inr l1)), some (.inl (ω.2.2.2 (am_w (l3 + 1)).toNat)), some (.inl (ω.2.2.2 (am_w (l3 + 2)).toNat)), some (.inr (.inl (am_lor (am_lshl (ω.2.2.2 (am_w (l3 + 3)).toNat) 32) (am_land (ω.2.2.2 (am_w (l3 + 4)).toNat) 4294967295)))), none, none, none], [], ω)) (fun z1 ω1 => if (decide (0 ≤ (am_w (l3 + 1))) && decide ((am_w (l3 + 1)) < (ω1.2.2.1 : Int))) = true then (if (decide (0 ≤ (am_w (l3 + 2))) && decide ((am_w (l3 + 2)) < (ω1.2.2.1 : Int))) = true then (if (decide (0 ≤ (am_w (l3 + 3))) && decide ((am_w (l3 + 3)) < (ω1.2.2.1 : Int))) = true then (if (decide (0 ≤ (am_w (l3 + 4))) && decide ((am_w (l3 + 4)) < (ω1.2.2.1 : Int))) = true then (if am_is ω1 l2 (7, 30) = true then (am_bi (am_run (157, 0) 0 ([some (.inr (.inr l2)), some (.inl (ω1.2.2.2 (am_w (l3 + 1)).toNat)), some (.inl (ω1.2.2.2 (am_w (l3 + 2)).toNat)), some (.inr (.inl (am_lor (am_lshl (ω1.2.2.2 (am_w (l3 + 3)).toNat) 32) (am_land (ω1.2.2.2 (am_w (l3 + 4)).toNat) 4294967295)))), none, none, none, none], [], ω1)) (fun z2 ω2 => if z1 = z2 then (am_run (240, 0) 1708 ([some (.inr (.inr ((-2)))), some (.inr (.inr l1)), some (.inr (.inr l2)), some (.inl l3)], [], ω2)) else (some (some (.inl 0), ω2)))) else none) else none) else none) else none) else none)) else none) else none) else none) else none := by
  refine Eq.trans (rr_aload_n rfl rfl) ?_
  refine Eq.trans (rr_aload_n rfl rfl) ?_
  refine Eq.trans (rr_iload_n rfl rfl) ?_
  refine Eq.trans (rr_iconst rfl rfl) ?_
  refine Eq.trans (rr_iadd rfl) ?_
  refine ck_it (fun h => rr_scrload rfl rfl h) (fun h => rr_scrload_no rfl rfl h) (fun h1 => ?_)
  refine Eq.trans (rr_aload_n rfl rfl) ?_
  refine Eq.trans (rr_iload_n rfl rfl) ?_
  refine Eq.trans (rr_iconst rfl rfl) ?_
  refine Eq.trans (rr_iadd rfl) ?_
  refine ck_it (fun h => rr_scrload rfl rfl h) (fun h => rr_scrload_no rfl rfl h) (fun h2 => ?_)
  refine Eq.trans (rr_aload_n rfl rfl) ?_
  refine Eq.trans (rr_iload_n rfl rfl) ?_
  refine Eq.trans (rr_iconst rfl rfl) ?_
  refine Eq.trans (rr_iadd rfl) ?_
  refine ck_it (fun h => rr_scrload rfl rfl h) (fun h => rr_scrload_no rfl rfl h) (fun h3 => ?_)
  refine Eq.trans (rr_i2l rfl) ?_
  refine Eq.trans (rr_bipush rfl rfl) ?_
  refine Eq.trans (rr_lshl rfl) ?_
  refine Eq.trans (rr_aload_n rfl rfl) ?_
  refine Eq.trans (rr_iload_n rfl rfl) ?_
  refine Eq.trans (rr_iconst rfl rfl) ?_
  refine Eq.trans (rr_iadd rfl) ?_
  refine ck_it (fun h => rr_scrload rfl rfl h) (fun h => rr_scrload_no rfl rfl h) (fun h4 => ?_)
  refine Eq.trans (rr_i2l rfl) ?_
  refine Eq.trans (rr_ldc2 rfl rfl) ?_
  refine Eq.trans (rr_land rfl) ?_
  refine Eq.trans (rr_lor rfl) ?_
  refine Eq.trans (rr_invV0i (S' := []) (L' := [some (.inr (.inr l1)), some (.inl (ω.2.2.2 (am_w (l3 + 1)).toNat)), some (.inl (ω.2.2.2 (am_w (l3 + 2)).toNat)), some (.inr (.inl (am_lor (am_lshl (ω.2.2.2 (am_w (l3 + 3)).toNat) 32) (am_land (ω.2.2.2 (am_w (l3 + 4)).toNat) 4294967295)))), none, none, none]) (m' := (85, 0)) rfl rfl rfl rfl rfl rfl h5) ?_
  refine bi_cg (fun z1 ω1 => ?_)
  refine Eq.trans (rr_aload_n rfl rfl) ?_
  refine Eq.trans (rr_aload_n rfl rfl) ?_
  refine Eq.trans (rr_iload_n rfl rfl) ?_
  refine Eq.trans (rr_iconst rfl rfl) ?_
  refine Eq.trans (rr_iadd rfl) ?_
  refine ck_it (fun h => rr_scrload rfl rfl h) (fun h => rr_scrload_no rfl rfl h) (fun h6 => ?_)
  refine Eq.trans (rr_aload_n rfl rfl) ?_
  refine Eq.trans (rr_iload_n rfl rfl) ?_
  refine Eq.trans (rr_iconst rfl rfl) ?_
  refine Eq.trans (rr_iadd rfl) ?_
  refine ck_it (fun h => rr_scrload rfl rfl h) (fun h => rr_scrload_no rfl rfl h) (fun h7 => ?_)
  refine Eq.trans (rr_aload_n rfl rfl) ?_
  refine Eq.trans (rr_iload_n rfl rfl) ?_
  refine Eq.trans (rr_iconst rfl rfl) ?_
  refine Eq.trans (rr_iadd rfl) ?_
  refine ck_it (fun h => rr_scrload rfl rfl h) (fun h => rr_scrload_no rfl rfl h) (fun h8 => ?_)
  refine Eq.trans (rr_i2l rfl) ?_
  refine Eq.trans (rr_bipush rfl rfl) ?_
  refine Eq.trans (rr_lshl rfl) ?_
  refine Eq.trans (rr_aload_n rfl rfl) ?_
  refine Eq.trans (rr_iload_n rfl rfl) ?_
  refine Eq.trans (rr_iconst rfl rfl) ?_
  refine Eq.trans (rr_iadd rfl) ?_
  refine ck_it (fun h => rr_scrload rfl rfl h) (fun h => rr_scrload_no rfl rfl h) (fun h9 => ?_)
  refine Eq.trans (rr_i2l rfl) ?_
  refine Eq.trans (rr_ldc2 rfl rfl) ?_
  refine Eq.trans (rr_land rfl) ?_
  refine Eq.trans (rr_lor rfl) ?_
  refine ck_it (fun h => rr_invV0i (S' := [.inl z1]) (L' := [some (.inr (.inr l2)), some (.inl (ω1.2.2.2 (am_w (l3 + 1)).toNat)), some (.inl (ω1.2.2.2 (am_w (l3 + 2)).toNat)), some (.inr (.inl (am_lor (am_lshl (ω1.2.2.2 (am_w (l3 + 3)).toNat) 32) (am_land (ω1.2.2.2 (am_w (l3 + 4)).toNat) 4294967295)))), none, none, none, none]) (m' := (157, 0)) rfl rfl rfl rfl rfl rfl h) (fun h => rr_invV0_no (S' := [.inl z1]) (L' := [some (.inr (.inr l2)), some (.inl (ω1.2.2.2 (am_w (l3 + 1)).toNat)), some (.inl (ω1.2.2.2 (am_w (l3 + 2)).toNat)), some (.inr (.inl (am_lor (am_lshl (ω1.2.2.2 (am_w (l3 + 3)).toNat) 32) (am_land (ω1.2.2.2 (am_w (l3 + 4)).toNat) 4294967295)))), none, none, none, none]) (m' := (157, 0)) rfl rfl rfl rfl rfl rfl h) (fun h10 => ?_)
  refine bi_cg (fun z2 ω2 => ?_)
  refine Eq.trans (rr_icmp_eq rfl rfl) (it_cg (fun _ => ?_) (fun _ => ?_))
  · rfl
  · refine Eq.trans (rr_iconst rfl rfl) ?_
    exact rr_ireturn rfl rfl
theorem pL_law_340 (l1 l2 l3 : Int) (ω : am_W) (h6 : am_is ω l1 (6, 10) = true) : am_run (240, 0) 340 ([some (.inr (.inr ((-2)))), some (.inr (.inr l1)), some (.inr (.inr l2)), some (.inl l3)], [], ω) = if (decide (0 ≤ (am_w (l3 + 1))) && decide ((am_w (l3 + 1)) < (ω.2.2.1 : Int))) = true then (if (decide (0 ≤ (am_w (l3 + 2))) && decide ((am_w (l3 + 2)) < (ω.2.2.1 : Int))) = true then (if (decide (0 ≤ (am_w (l3 + 3))) && decide ((am_w (l3 + 3)) < (ω.2.2.1 : Int))) = true then (if (decide (0 ≤ (am_w (l3 + 4))) && decide ((am_w (l3 + 4)) < (ω.2.2.1 : Int))) = true then (if (decide (0 ≤ (am_w (l3 + 5))) && decide ((am_w (l3 + 5)) < (ω.2.2.1 : Int))) = true then (am_bi (am_run (86, 0) 0 ([some (.inr (.inr l1)), some (.inl (ω.2.2.2 (am_w (l3 + 1)).toNat)), some (.inl (ω.2.2.2 (am_w (l3 + 2)).toNat)), some (.inl (ω.2.2.2 (am_w (l3 + 3)).toNat)), some (.inl (ω.2.2.2 (am_w (l3 + 4)).toNat)), some (.inl (ω.2.2.2 (am_w (l3 + 5)).toNat)), none, none, none], [], ω)) (fun z1 ω1 => if (decide (0 ≤ (am_w (l3 + 1))) && decide ((am_w (l3 + 1)) < (ω1.2.2.1 : Int))) = true then (if (decide (0 ≤ (am_w (l3 + 2))) && decide ((am_w (l3 + 2)) < (ω1.2.2.1 : Int))) = true then (if (decide (0 ≤ (am_w (l3 + 3))) && decide ((am_w (l3 + 3)) < (ω1.2.2.1 : Int))) = true then (if (decide (0 ≤ (am_w (l3 + 4))) && decide ((am_w (l3 + 4)) < (ω1.2.2.1 : Int))) = true then (if (decide (0 ≤ (am_w (l3 + 5))) && decide ((am_w (l3 + 5)) < (ω1.2.2.1 : Int))) = true then (if am_is ω1 l2 (7, 30) = true then (am_bi (am_run (158, 0) 0 ([some (.inr (.inr l2)), some (.inl (ω1.2.2.2 (am_w (l3 + 1)).toNat)), some (.inl (ω1.2.2.2 (am_w (l3 + 2)).toNat)), some (.inl (ω1.2.2.2 (am_w (l3 + 3)).toNat)), some (.inl (ω1.2.2.2 (am_w (l3 + 4)).toNat)), some (.inl (ω1.2.2.2 (am_w (l3 + 5)).toNat)), none], [], ω1)) (fun z2 ω2 => if z1 = z2 then (am_run (240, 0) 1708 ([some (.inr (.inr ((-2)))), some (.inr (.inr l1)), some (.inr (.inr l2)), some (.inl l3)], [], ω2)) else (some (some (.inl 0), ω2)))) else none) else none) else none) else none) else none) else none)) else none) else none) else none) else none) else none := by
  refine Eq.trans (rr_aload_n rfl rfl) ?_
  refine Eq.trans (rr_aload_n rfl rfl) ?_
  refine Eq.trans (rr_iload_n rfl rfl) ?_
  refine Eq.trans (rr_iconst rfl rfl) ?_
  refine Eq.trans (rr_iadd rfl) ?_
  refine ck_it (fun h => rr_scrload rfl rfl h) (fun h => rr_scrload_no rfl rfl h) (fun h1 => ?_)
  refine Eq.trans (rr_aload_n rfl rfl) ?_
  refine Eq.trans (rr_iload_n rfl rfl) ?_
  refine Eq.trans (rr_iconst rfl rfl) ?_
  refine Eq.trans (rr_iadd rfl) ?_
  refine ck_it (fun h => rr_scrload rfl rfl h) (fun h => rr_scrload_no rfl rfl h) (fun h2 => ?_)
  refine Eq.trans (rr_aload_n rfl rfl) ?_
  refine Eq.trans (rr_iload_n rfl rfl) ?_
  refine Eq.trans (rr_iconst rfl rfl) ?_
  refine Eq.trans (rr_iadd rfl) ?_
  refine ck_it (fun h => rr_scrload rfl rfl h) (fun h => rr_scrload_no rfl rfl h) (fun h3 => ?_)
  refine Eq.trans (rr_aload_n rfl rfl) ?_
  refine Eq.trans (rr_iload_n rfl rfl) ?_
  refine Eq.trans (rr_iconst rfl rfl) ?_
  refine Eq.trans (rr_iadd rfl) ?_
  refine ck_it (fun h => rr_scrload rfl rfl h) (fun h => rr_scrload_no rfl rfl h) (fun h4 => ?_)
  refine Eq.trans (rr_aload_n rfl rfl) ?_
  refine Eq.trans (rr_iload_n rfl rfl) ?_
  refine Eq.trans (rr_iconst rfl rfl) ?_
  refine Eq.trans (rr_iadd rfl) ?_
  refine ck_it (fun h => rr_scrload rfl rfl h) (fun h => rr_scrload_no rfl rfl h) (fun h5 => ?_)
  refine Eq.trans (rr_invV0i (S' := []) (L' := [some (.inr (.inr l1)), some (.inl (ω.2.2.2 (am_w (l3 + 1)).toNat)), some (.inl (ω.2.2.2 (am_w (l3 + 2)).toNat)), some (.inl (ω.2.2.2 (am_w (l3 + 3)).toNat)), some (.inl (ω.2.2.2 (am_w (l3 + 4)).toNat)), some (.inl (ω.2.2.2 (am_w (l3 + 5)).toNat)), none, none, none]) (m' := (86, 0)) rfl rfl rfl rfl rfl rfl h6) ?_
  refine bi_cg (fun z1 ω1 => ?_)
  refine Eq.trans (rr_aload_n rfl rfl) ?_
  refine Eq.trans (rr_aload_n rfl rfl) ?_
  refine Eq.trans (rr_iload_n rfl rfl) ?_
  refine Eq.trans (rr_iconst rfl rfl) ?_
  refine Eq.trans (rr_iadd rfl) ?_
  refine ck_it (fun h => rr_scrload rfl rfl h) (fun h => rr_scrload_no rfl rfl h) (fun h7 => ?_)
  refine Eq.trans (rr_aload_n rfl rfl) ?_
  refine Eq.trans (rr_iload_n rfl rfl) ?_
  refine Eq.trans (rr_iconst rfl rfl) ?_
  refine Eq.trans (rr_iadd rfl) ?_
  refine ck_it (fun h => rr_scrload rfl rfl h) (fun h => rr_scrload_no rfl rfl h) (fun h8 => ?_)
  refine Eq.trans (rr_aload_n rfl rfl) ?_
  refine Eq.trans (rr_iload_n rfl rfl) ?_
  refine Eq.trans (rr_iconst rfl rfl) ?_
  refine Eq.trans (rr_iadd rfl) ?_
  refine ck_it (fun h => rr_scrload rfl rfl h) (fun h => rr_scrload_no rfl rfl h) (fun h9 => ?_)
  refine Eq.trans (rr_aload_n rfl rfl) ?_
  refine Eq.trans (rr_iload_n rfl rfl) ?_
  refine Eq.trans (rr_iconst rfl rfl) ?_
  refine Eq.trans (rr_iadd rfl) ?_
  refine ck_it (fun h => rr_scrload rfl rfl h) (fun h => rr_scrload_no rfl rfl h) (fun h10 => ?_)
  refine Eq.trans (rr_aload_n rfl rfl) ?_
  refine Eq.trans (rr_iload_n rfl rfl) ?_
  refine Eq.trans (rr_iconst rfl rfl) ?_
  refine Eq.trans (rr_iadd rfl) ?_
  refine ck_it (fun h => rr_scrload rfl rfl h) (fun h => rr_scrload_no rfl rfl h) (fun h11 => ?_)
  refine ck_it (fun h => rr_invV0i (S' := [.inl z1]) (L' := [some (.inr (.inr l2)), some (.inl (ω1.2.2.2 (am_w (l3 + 1)).toNat)), some (.inl (ω1.2.2.2 (am_w (l3 + 2)).toNat)), some (.inl (ω1.2.2.2 (am_w (l3 + 3)).toNat)), some (.inl (ω1.2.2.2 (am_w (l3 + 4)).toNat)), some (.inl (ω1.2.2.2 (am_w (l3 + 5)).toNat)), none]) (m' := (158, 0)) rfl rfl rfl rfl rfl rfl h) (fun h => rr_invV0_no (S' := [.inl z1]) (L' := [some (.inr (.inr l2)), some (.inl (ω1.2.2.2 (am_w (l3 + 1)).toNat)), some (.inl (ω1.2.2.2 (am_w (l3 + 2)).toNat)), some (.inl (ω1.2.2.2 (am_w (l3 + 3)).toNat)), some (.inl (ω1.2.2.2 (am_w (l3 + 4)).toNat)), some (.inl (ω1.2.2.2 (am_w (l3 + 5)).toNat)), none]) (m' := (158, 0)) rfl rfl rfl rfl rfl rfl h) (fun h12 => ?_)
  refine bi_cg (fun z2 ω2 => ?_)
  refine Eq.trans (rr_icmp_eq rfl rfl) (it_cg (fun _ => ?_) (fun _ => ?_))
  · rfl
  · refine Eq.trans (rr_iconst rfl rfl) ?_
    exact rr_ireturn rfl rfl
theorem pL_law_403 (l1 l2 l3 : Int) (ω : am_W) (h3 : am_is ω l1 (6, 10) = true) : am_run (240, 0) 403 ([some (.inr (.inr ((-2)))), some (.inr (.inr l1)), some (.inr (.inr l2)), some (.inl l3)], [], ω) = if (decide (0 ≤ (am_w (l3 + 1))) && decide ((am_w (l3 + 1)) < (ω.2.2.1 : Int))) = true then (if (decide (0 ≤ (am_w (l3 + 2))) && decide ((am_w (l3 + 2)) < (ω.2.2.1 : Int))) = true then (am_bl (am_run (87, 0) 0 ([some (.inr (.inr l1)), some (.inl (ω.2.2.2 (am_w (l3 + 1)).toNat)), some (.inl (ω.2.2.2 (am_w (l3 + 2)).toNat))], [], ω)) (fun z1 ω1 => if (decide (0 ≤ (am_w (l3 + 1))) && decide ((am_w (l3 + 1)) < (ω1.2.2.1 : Int))) = true then (if (decide (0 ≤ (am_w (l3 + 2))) && decide ((am_w (l3 + 2)) < (ω1.2.2.1 : Int))) = true then (if am_is ω1 l2 (7, 30) = true then (am_bl (am_run (159, 0) 0 ([some (.inr (.inr l2)), some (.inl (ω1.2.2.2 (am_w (l3 + 1)).toNat)), some (.inl (ω1.2.2.2 (am_w (l3 + 2)).toNat))], [], ω1)) (fun z2 ω2 => if (am_cmp z1 z2) = 0 then (am_run (240, 0) 1708 ([some (.inr (.inr ((-2)))), some (.inr (.inr l1)), some (.inr (.inr l2)), some (.inl l3)], [], ω2)) else (some (some (.inl 0), ω2)))) else none) else none) else none)) else none) else none := by
  refine Eq.trans (rr_aload_n rfl rfl) ?_
  refine Eq.trans (rr_aload_n rfl rfl) ?_
  refine Eq.trans (rr_iload_n rfl rfl) ?_
  refine Eq.trans (rr_iconst rfl rfl) ?_
  refine Eq.trans (rr_iadd rfl) ?_
  refine ck_it (fun h => rr_scrload rfl rfl h) (fun h => rr_scrload_no rfl rfl h) (fun h1 => ?_)
  refine Eq.trans (rr_aload_n rfl rfl) ?_
  refine Eq.trans (rr_iload_n rfl rfl) ?_
  refine Eq.trans (rr_iconst rfl rfl) ?_
  refine Eq.trans (rr_iadd rfl) ?_
  refine ck_it (fun h => rr_scrload rfl rfl h) (fun h => rr_scrload_no rfl rfl h) (fun h2 => ?_)
  refine Eq.trans (rr_invV0l (S' := []) (L' := [some (.inr (.inr l1)), some (.inl (ω.2.2.2 (am_w (l3 + 1)).toNat)), some (.inl (ω.2.2.2 (am_w (l3 + 2)).toNat))]) (m' := (87, 0)) rfl rfl rfl rfl rfl rfl h3) ?_
  refine bl_cg (fun z1 ω1 => ?_)
  refine Eq.trans (rr_aload_n rfl rfl) ?_
  refine Eq.trans (rr_aload_n rfl rfl) ?_
  refine Eq.trans (rr_iload_n rfl rfl) ?_
  refine Eq.trans (rr_iconst rfl rfl) ?_
  refine Eq.trans (rr_iadd rfl) ?_
  refine ck_it (fun h => rr_scrload rfl rfl h) (fun h => rr_scrload_no rfl rfl h) (fun h4 => ?_)
  refine Eq.trans (rr_aload_n rfl rfl) ?_
  refine Eq.trans (rr_iload_n rfl rfl) ?_
  refine Eq.trans (rr_iconst rfl rfl) ?_
  refine Eq.trans (rr_iadd rfl) ?_
  refine ck_it (fun h => rr_scrload rfl rfl h) (fun h => rr_scrload_no rfl rfl h) (fun h5 => ?_)
  refine ck_it (fun h => rr_invV0l (S' := [.inr (.inl z1)]) (L' := [some (.inr (.inr l2)), some (.inl (ω1.2.2.2 (am_w (l3 + 1)).toNat)), some (.inl (ω1.2.2.2 (am_w (l3 + 2)).toNat))]) (m' := (159, 0)) rfl rfl rfl rfl rfl rfl h) (fun h => rr_invV0_no (S' := [.inr (.inl z1)]) (L' := [some (.inr (.inr l2)), some (.inl (ω1.2.2.2 (am_w (l3 + 1)).toNat)), some (.inl (ω1.2.2.2 (am_w (l3 + 2)).toNat))]) (m' := (159, 0)) rfl rfl rfl rfl rfl rfl h) (fun h6 => ?_)
  refine bl_cg (fun z2 ω2 => ?_)
  refine Eq.trans (rr_lcmp rfl) ?_
  refine Eq.trans (rr_if_eq rfl rfl) (it_cg (fun _ => ?_) (fun _ => ?_))
  · rfl
  · refine Eq.trans (rr_iconst rfl rfl) ?_
    exact rr_ireturn rfl rfl
theorem pL_law_437 (l1 l2 l3 : Int) (ω : am_W) (h2 : am_is ω l1 (6, 10) = true) : am_run (240, 0) 437 ([some (.inr (.inr ((-2)))), some (.inr (.inr l1)), some (.inr (.inr l2)), some (.inl l3)], [], ω) = if (decide (0 ≤ (am_w (l3 + 1))) && decide ((am_w (l3 + 1)) < (ω.2.2.1 : Int))) = true then (am_bi (am_run (88, 0) 0 ([some (.inr (.inr l1)), some (.inl (ω.2.2.2 (am_w (l3 + 1)).toNat))], [], ω)) (fun z1 ω1 => if (decide (0 ≤ (am_w (l3 + 1))) && decide ((am_w (l3 + 1)) < (ω1.2.2.1 : Int))) = true then (if am_is ω1 l2 (7, 30) = true then (am_bi (am_run (160, 0) 0 ([some (.inr (.inr l2)), some (.inl (ω1.2.2.2 (am_w (l3 + 1)).toNat))], [], ω1)) (fun z2 ω2 => if z1 = z2 then (am_run (240, 0) 1708 ([some (.inr (.inr ((-2)))), some (.inr (.inr l1)), some (.inr (.inr l2)), some (.inl l3)], [], ω2)) else (some (some (.inl 0), ω2)))) else none) else none)) else none := by
  refine Eq.trans (rr_aload_n rfl rfl) ?_
  refine Eq.trans (rr_aload_n rfl rfl) ?_
  refine Eq.trans (rr_iload_n rfl rfl) ?_
  refine Eq.trans (rr_iconst rfl rfl) ?_
  refine Eq.trans (rr_iadd rfl) ?_
  refine ck_it (fun h => rr_scrload rfl rfl h) (fun h => rr_scrload_no rfl rfl h) (fun h1 => ?_)
  refine Eq.trans (rr_invV0i (S' := []) (L' := [some (.inr (.inr l1)), some (.inl (ω.2.2.2 (am_w (l3 + 1)).toNat))]) (m' := (88, 0)) rfl rfl rfl rfl rfl rfl h2) ?_
  refine bi_cg (fun z1 ω1 => ?_)
  refine Eq.trans (rr_aload_n rfl rfl) ?_
  refine Eq.trans (rr_aload_n rfl rfl) ?_
  refine Eq.trans (rr_iload_n rfl rfl) ?_
  refine Eq.trans (rr_iconst rfl rfl) ?_
  refine Eq.trans (rr_iadd rfl) ?_
  refine ck_it (fun h => rr_scrload rfl rfl h) (fun h => rr_scrload_no rfl rfl h) (fun h3 => ?_)
  refine ck_it (fun h => rr_invV0i (S' := [.inl z1]) (L' := [some (.inr (.inr l2)), some (.inl (ω1.2.2.2 (am_w (l3 + 1)).toNat))]) (m' := (160, 0)) rfl rfl rfl rfl rfl rfl h) (fun h => rr_invV0_no (S' := [.inl z1]) (L' := [some (.inr (.inr l2)), some (.inl (ω1.2.2.2 (am_w (l3 + 1)).toNat))]) (m' := (160, 0)) rfl rfl rfl rfl rfl rfl h) (fun h4 => ?_)
  refine bi_cg (fun z2 ω2 => ?_)
  refine Eq.trans (rr_icmp_eq rfl rfl) (it_cg (fun _ => ?_) (fun _ => ?_))
  · rfl
  · refine Eq.trans (rr_iconst rfl rfl) ?_
    exact rr_ireturn rfl rfl
theorem pL_law_460 (l1 l2 l3 : Int) (ω : am_W) (h3 : am_is ω l1 (6, 10) = true) : am_run (240, 0) 460 ([some (.inr (.inr ((-2)))), some (.inr (.inr l1)), some (.inr (.inr l2)), some (.inl l3)], [], ω) = if (decide (0 ≤ (am_w (l3 + 1))) && decide ((am_w (l3 + 1)) < (ω.2.2.1 : Int))) = true then (if (decide (0 ≤ (am_w (l3 + 2))) && decide ((am_w (l3 + 2)) < (ω.2.2.1 : Int))) = true then (am_bi (am_run (89, 0) 0 ([some (.inr (.inr l1)), some (.inl (ω.2.2.2 (am_w (l3 + 1)).toNat)), some (.inl (ω.2.2.2 (am_w (l3 + 2)).toNat))], [], ω)) (fun z1 ω1 => if (decide (0 ≤ (am_w (l3 + 1))) && decide ((am_w (l3 + 1)) < (ω1.2.2.1 : Int))) = true then (if (decide (0 ≤ (am_w (l3 + 2))) && decide ((am_w (l3 + 2)) < (ω1.2.2.1 : Int))) = true then (if am_is ω1 l2 (7, 30) = true then (am_bi (am_run (161, 0) 0 ([some (.inr (.inr l2)), some (.inl (ω1.2.2.2 (am_w (l3 + 1)).toNat)), some (.inl (ω1.2.2.2 (am_w (l3 + 2)).toNat))], [], ω1)) (fun z2 ω2 => if z1 = z2 then (am_run (240, 0) 1708 ([some (.inr (.inr ((-2)))), some (.inr (.inr l1)), some (.inr (.inr l2)), some (.inl l3)], [], ω2)) else (some (some (.inl 0), ω2)))) else none) else none) else none)) else none) else none := by
  refine Eq.trans (rr_aload_n rfl rfl) ?_
  refine Eq.trans (rr_aload_n rfl rfl) ?_
  refine Eq.trans (rr_iload_n rfl rfl) ?_
  refine Eq.trans (rr_iconst rfl rfl) ?_
  refine Eq.trans (rr_iadd rfl) ?_
  refine ck_it (fun h => rr_scrload rfl rfl h) (fun h => rr_scrload_no rfl rfl h) (fun h1 => ?_)
  refine Eq.trans (rr_aload_n rfl rfl) ?_
  refine Eq.trans (rr_iload_n rfl rfl) ?_
  refine Eq.trans (rr_iconst rfl rfl) ?_
  refine Eq.trans (rr_iadd rfl) ?_
  refine ck_it (fun h => rr_scrload rfl rfl h) (fun h => rr_scrload_no rfl rfl h) (fun h2 => ?_)
  refine Eq.trans (rr_invV0i (S' := []) (L' := [some (.inr (.inr l1)), some (.inl (ω.2.2.2 (am_w (l3 + 1)).toNat)), some (.inl (ω.2.2.2 (am_w (l3 + 2)).toNat))]) (m' := (89, 0)) rfl rfl rfl rfl rfl rfl h3) ?_
  refine bi_cg (fun z1 ω1 => ?_)
  refine Eq.trans (rr_aload_n rfl rfl) ?_
  refine Eq.trans (rr_aload_n rfl rfl) ?_
  refine Eq.trans (rr_iload_n rfl rfl) ?_
  refine Eq.trans (rr_iconst rfl rfl) ?_
  refine Eq.trans (rr_iadd rfl) ?_
  refine ck_it (fun h => rr_scrload rfl rfl h) (fun h => rr_scrload_no rfl rfl h) (fun h4 => ?_)
  refine Eq.trans (rr_aload_n rfl rfl) ?_
  refine Eq.trans (rr_iload_n rfl rfl) ?_
  refine Eq.trans (rr_iconst rfl rfl) ?_
  refine Eq.trans (rr_iadd rfl) ?_
  refine ck_it (fun h => rr_scrload rfl rfl h) (fun h => rr_scrload_no rfl rfl h) (fun h5 => ?_)
  refine ck_it (fun h => rr_invV0i (S' := [.inl z1]) (L' := [some (.inr (.inr l2)), some (.inl (ω1.2.2.2 (am_w (l3 + 1)).toNat)), some (.inl (ω1.2.2.2 (am_w (l3 + 2)).toNat))]) (m' := (161, 0)) rfl rfl rfl rfl rfl rfl h) (fun h => rr_invV0_no (S' := [.inl z1]) (L' := [some (.inr (.inr l2)), some (.inl (ω1.2.2.2 (am_w (l3 + 1)).toNat)), some (.inl (ω1.2.2.2 (am_w (l3 + 2)).toNat))]) (m' := (161, 0)) rfl rfl rfl rfl rfl rfl h) (fun h6 => ?_)
  refine bi_cg (fun z2 ω2 => ?_)
  refine Eq.trans (rr_icmp_eq rfl rfl) (it_cg (fun _ => ?_) (fun _ => ?_))
  · rfl
  · refine Eq.trans (rr_iconst rfl rfl) ?_
    exact rr_ireturn rfl rfl
theorem pL_law_493 (l1 l2 l3 : Int) (ω : am_W) (h3 : am_is ω l1 (6, 10) = true) : am_run (240, 0) 493 ([some (.inr (.inr ((-2)))), some (.inr (.inr l1)), some (.inr (.inr l2)), some (.inl l3)], [], ω) = if (decide (0 ≤ (am_w (l3 + 1))) && decide ((am_w (l3 + 1)) < (ω.2.2.1 : Int))) = true then (if (decide (0 ≤ (am_w (l3 + 2))) && decide ((am_w (l3 + 2)) < (ω.2.2.1 : Int))) = true then (am_bi (am_run (90, 0) 0 ([some (.inr (.inr l1)), some (.inl (ω.2.2.2 (am_w (l3 + 1)).toNat)), some (.inl (ω.2.2.2 (am_w (l3 + 2)).toNat)), none, none, none], [], ω)) (fun z1 ω1 => if (decide (0 ≤ (am_w (l3 + 1))) && decide ((am_w (l3 + 1)) < (ω1.2.2.1 : Int))) = true then (if (decide (0 ≤ (am_w (l3 + 2))) && decide ((am_w (l3 + 2)) < (ω1.2.2.1 : Int))) = true then (if am_is ω1 l2 (7, 30) = true then (am_bi (am_run (163, 0) 0 ([some (.inr (.inr l2)), some (.inl (ω1.2.2.2 (am_w (l3 + 1)).toNat)), some (.inl (ω1.2.2.2 (am_w (l3 + 2)).toNat)), none, none, none], [], ω1)) (fun z2 ω2 => if z1 = z2 then (am_run (240, 0) 1708 ([some (.inr (.inr ((-2)))), some (.inr (.inr l1)), some (.inr (.inr l2)), some (.inl l3)], [], ω2)) else (some (some (.inl 0), ω2)))) else none) else none) else none)) else none) else none := by
  refine Eq.trans (rr_aload_n rfl rfl) ?_
  refine Eq.trans (rr_aload_n rfl rfl) ?_
  refine Eq.trans (rr_iload_n rfl rfl) ?_
  refine Eq.trans (rr_iconst rfl rfl) ?_
  refine Eq.trans (rr_iadd rfl) ?_
  refine ck_it (fun h => rr_scrload rfl rfl h) (fun h => rr_scrload_no rfl rfl h) (fun h1 => ?_)
  refine Eq.trans (rr_aload_n rfl rfl) ?_
  refine Eq.trans (rr_iload_n rfl rfl) ?_
  refine Eq.trans (rr_iconst rfl rfl) ?_
  refine Eq.trans (rr_iadd rfl) ?_
  refine ck_it (fun h => rr_scrload rfl rfl h) (fun h => rr_scrload_no rfl rfl h) (fun h2 => ?_)
  refine Eq.trans (rr_invV0i (S' := []) (L' := [some (.inr (.inr l1)), some (.inl (ω.2.2.2 (am_w (l3 + 1)).toNat)), some (.inl (ω.2.2.2 (am_w (l3 + 2)).toNat)), none, none, none]) (m' := (90, 0)) rfl rfl rfl rfl rfl rfl h3) ?_
  refine bi_cg (fun z1 ω1 => ?_)
  refine Eq.trans (rr_aload_n rfl rfl) ?_
  refine Eq.trans (rr_aload_n rfl rfl) ?_
  refine Eq.trans (rr_iload_n rfl rfl) ?_
  refine Eq.trans (rr_iconst rfl rfl) ?_
  refine Eq.trans (rr_iadd rfl) ?_
  refine ck_it (fun h => rr_scrload rfl rfl h) (fun h => rr_scrload_no rfl rfl h) (fun h4 => ?_)
  refine Eq.trans (rr_aload_n rfl rfl) ?_
  refine Eq.trans (rr_iload_n rfl rfl) ?_
  refine Eq.trans (rr_iconst rfl rfl) ?_
  refine Eq.trans (rr_iadd rfl) ?_
  refine ck_it (fun h => rr_scrload rfl rfl h) (fun h => rr_scrload_no rfl rfl h) (fun h5 => ?_)
  refine ck_it (fun h => rr_invV0i (S' := [.inl z1]) (L' := [some (.inr (.inr l2)), some (.inl (ω1.2.2.2 (am_w (l3 + 1)).toNat)), some (.inl (ω1.2.2.2 (am_w (l3 + 2)).toNat)), none, none, none]) (m' := (163, 0)) rfl rfl rfl rfl rfl rfl h) (fun h => rr_invV0_no (S' := [.inl z1]) (L' := [some (.inr (.inr l2)), some (.inl (ω1.2.2.2 (am_w (l3 + 1)).toNat)), some (.inl (ω1.2.2.2 (am_w (l3 + 2)).toNat)), none, none, none]) (m' := (163, 0)) rfl rfl rfl rfl rfl rfl h) (fun h6 => ?_)
  refine bi_cg (fun z2 ω2 => ?_)
  refine Eq.trans (rr_icmp_eq rfl rfl) (it_cg (fun _ => ?_) (fun _ => ?_))
  · rfl
  · refine Eq.trans (rr_iconst rfl rfl) ?_
    exact rr_ireturn rfl rfl
theorem pL_law_526 (l1 l2 l3 : Int) (ω : am_W) (h2 : am_is ω l1 (6, 10) = true) : am_run (240, 0) 526 ([some (.inr (.inr ((-2)))), some (.inr (.inr l1)), some (.inr (.inr l2)), some (.inl l3)], [], ω) = if (decide (0 ≤ (am_w (l3 + 1))) && decide ((am_w (l3 + 1)) < (ω.2.2.1 : Int))) = true then (am_bi (am_run (91, 0) 0 ([some (.inr (.inr l1)), some (.inl (ω.2.2.2 (am_w (l3 + 1)).toNat)), none], [], ω)) (fun z1 ω1 => if (decide (0 ≤ (am_w (l3 + 1))) && decide ((am_w (l3 + 1)) < (ω1.2.2.1 : Int))) = true then (if am_is ω1 l2 (7, 30) = true then (am_bi (am_run (165, 0) 0 ([some (.inr (.inr l2)), some (.inl (ω1.2.2.2 (am_w (l3 + 1)).toNat)), none], [], ω1)) (fun z2 ω2 => if z1 = z2 then (am_run (240, 0) 1708 ([some (.inr (.inr ((-2)))), some (.inr (.inr l1)), some (.inr (.inr l2)), some (.inl l3)], [], ω2)) else (some (some (.inl 0), ω2)))) else none) else none)) else none := by
  refine Eq.trans (rr_aload_n rfl rfl) ?_
  refine Eq.trans (rr_aload_n rfl rfl) ?_
  refine Eq.trans (rr_iload_n rfl rfl) ?_
  refine Eq.trans (rr_iconst rfl rfl) ?_
  refine Eq.trans (rr_iadd rfl) ?_
  refine ck_it (fun h => rr_scrload rfl rfl h) (fun h => rr_scrload_no rfl rfl h) (fun h1 => ?_)
  refine Eq.trans (rr_invV0i (S' := []) (L' := [some (.inr (.inr l1)), some (.inl (ω.2.2.2 (am_w (l3 + 1)).toNat)), none]) (m' := (91, 0)) rfl rfl rfl rfl rfl rfl h2) ?_
  refine bi_cg (fun z1 ω1 => ?_)
  refine Eq.trans (rr_aload_n rfl rfl) ?_
  refine Eq.trans (rr_aload_n rfl rfl) ?_
  refine Eq.trans (rr_iload_n rfl rfl) ?_
  refine Eq.trans (rr_iconst rfl rfl) ?_
  refine Eq.trans (rr_iadd rfl) ?_
  refine ck_it (fun h => rr_scrload rfl rfl h) (fun h => rr_scrload_no rfl rfl h) (fun h3 => ?_)
  refine ck_it (fun h => rr_invV0i (S' := [.inl z1]) (L' := [some (.inr (.inr l2)), some (.inl (ω1.2.2.2 (am_w (l3 + 1)).toNat)), none]) (m' := (165, 0)) rfl rfl rfl rfl rfl rfl h) (fun h => rr_invV0_no (S' := [.inl z1]) (L' := [some (.inr (.inr l2)), some (.inl (ω1.2.2.2 (am_w (l3 + 1)).toNat)), none]) (m' := (165, 0)) rfl rfl rfl rfl rfl rfl h) (fun h4 => ?_)
  refine bi_cg (fun z2 ω2 => ?_)
  refine Eq.trans (rr_icmp_eq rfl rfl) (it_cg (fun _ => ?_) (fun _ => ?_))
  · rfl
  · refine Eq.trans (rr_iconst rfl rfl) ?_
    exact rr_ireturn rfl rfl
theorem pL_law_549 (l1 l2 l3 : Int) (ω : am_W) (h3 : am_is ω l1 (6, 10) = true) : am_run (240, 0) 549 ([some (.inr (.inr ((-2)))), some (.inr (.inr l1)), some (.inr (.inr l2)), some (.inl l3)], [], ω) = if (decide (0 ≤ (am_w (l3 + 1))) && decide ((am_w (l3 + 1)) < (ω.2.2.1 : Int))) = true then (if (decide (0 ≤ (am_w (l3 + 2))) && decide ((am_w (l3 + 2)) < (ω.2.2.1 : Int))) = true then (am_bi (am_run (92, 0) 0 ([some (.inr (.inr l1)), some (.inl (ω.2.2.2 (am_w (l3 + 1)).toNat)), some (.inl (ω.2.2.2 (am_w (l3 + 2)).toNat)), none], [], ω)) (fun z1 ω1 => if (decide (0 ≤ (am_w (l3 + 1))) && decide ((am_w (l3 + 1)) < (ω1.2.2.1 : Int))) = true then (if (decide (0 ≤ (am_w (l3 + 2))) && decide ((am_w (l3 + 2)) < (ω1.2.2.1 : Int))) = true then (if am_is ω1 l2 (7, 30) = true then (am_bi (am_run (166, 0) 0 ([some (.inr (.inr l2)), some (.inl (ω1.2.2.2 (am_w (l3 + 1)).toNat)), some (.inl (ω1.2.2.2 (am_w (l3 + 2)).toNat)), none], [], ω1)) (fun z2 ω2 => if z1 = z2 then (am_run (240, 0) 1708 ([some (.inr (.inr ((-2)))), some (.inr (.inr l1)), some (.inr (.inr l2)), some (.inl l3)], [], ω2)) else (some (some (.inl 0), ω2)))) else none) else none) else none)) else none) else none := by
  refine Eq.trans (rr_aload_n rfl rfl) ?_
  refine Eq.trans (rr_aload_n rfl rfl) ?_
  refine Eq.trans (rr_iload_n rfl rfl) ?_
  refine Eq.trans (rr_iconst rfl rfl) ?_
  refine Eq.trans (rr_iadd rfl) ?_
  refine ck_it (fun h => rr_scrload rfl rfl h) (fun h => rr_scrload_no rfl rfl h) (fun h1 => ?_)
  refine Eq.trans (rr_aload_n rfl rfl) ?_
  refine Eq.trans (rr_iload_n rfl rfl) ?_
  refine Eq.trans (rr_iconst rfl rfl) ?_
  refine Eq.trans (rr_iadd rfl) ?_
  refine ck_it (fun h => rr_scrload rfl rfl h) (fun h => rr_scrload_no rfl rfl h) (fun h2 => ?_)
  refine Eq.trans (rr_invV0i (S' := []) (L' := [some (.inr (.inr l1)), some (.inl (ω.2.2.2 (am_w (l3 + 1)).toNat)), some (.inl (ω.2.2.2 (am_w (l3 + 2)).toNat)), none]) (m' := (92, 0)) rfl rfl rfl rfl rfl rfl h3) ?_
  refine bi_cg (fun z1 ω1 => ?_)
  refine Eq.trans (rr_aload_n rfl rfl) ?_
  refine Eq.trans (rr_aload_n rfl rfl) ?_
  refine Eq.trans (rr_iload_n rfl rfl) ?_
  refine Eq.trans (rr_iconst rfl rfl) ?_
  refine Eq.trans (rr_iadd rfl) ?_
  refine ck_it (fun h => rr_scrload rfl rfl h) (fun h => rr_scrload_no rfl rfl h) (fun h4 => ?_)
  refine Eq.trans (rr_aload_n rfl rfl) ?_
  refine Eq.trans (rr_iload_n rfl rfl) ?_
  refine Eq.trans (rr_iconst rfl rfl) ?_
  refine Eq.trans (rr_iadd rfl) ?_
  refine ck_it (fun h => rr_scrload rfl rfl h) (fun h => rr_scrload_no rfl rfl h) (fun h5 => ?_)
  refine ck_it (fun h => rr_invV0i (S' := [.inl z1]) (L' := [some (.inr (.inr l2)), some (.inl (ω1.2.2.2 (am_w (l3 + 1)).toNat)), some (.inl (ω1.2.2.2 (am_w (l3 + 2)).toNat)), none]) (m' := (166, 0)) rfl rfl rfl rfl rfl rfl h) (fun h => rr_invV0_no (S' := [.inl z1]) (L' := [some (.inr (.inr l2)), some (.inl (ω1.2.2.2 (am_w (l3 + 1)).toNat)), some (.inl (ω1.2.2.2 (am_w (l3 + 2)).toNat)), none]) (m' := (166, 0)) rfl rfl rfl rfl rfl rfl h) (fun h6 => ?_)
  refine bi_cg (fun z2 ω2 => ?_)
  refine Eq.trans (rr_icmp_eq rfl rfl) (it_cg (fun _ => ?_) (fun _ => ?_))
  · rfl
  · refine Eq.trans (rr_iconst rfl rfl) ?_
    exact rr_ireturn rfl rfl
theorem pL_law_582 (l1 l2 l3 : Int) (ω : am_W) (h3 : am_is ω l1 (6, 10) = true) : am_run (240, 0) 582 ([some (.inr (.inr ((-2)))), some (.inr (.inr l1)), some (.inr (.inr l2)), some (.inl l3)], [], ω) = if (decide (0 ≤ (am_w (l3 + 1))) && decide ((am_w (l3 + 1)) < (ω.2.2.1 : Int))) = true then (if (decide (0 ≤ (am_w (l3 + 2))) && decide ((am_w (l3 + 2)) < (ω.2.2.1 : Int))) = true then (am_bi (am_run (93, 0) 0 ([some (.inr (.inr l1)), some (.inl (ω.2.2.2 (am_w (l3 + 1)).toNat)), some (.inl (ω.2.2.2 (am_w (l3 + 2)).toNat)), none], [], ω)) (fun z1 ω1 => if (decide (0 ≤ (am_w (l3 + 1))) && decide ((am_w (l3 + 1)) < (ω1.2.2.1 : Int))) = true then (if (decide (0 ≤ (am_w (l3 + 2))) && decide ((am_w (l3 + 2)) < (ω1.2.2.1 : Int))) = true then (if am_is ω1 l2 (7, 30) = true then (am_bi (am_run (167, 0) 0 ([some (.inr (.inr l2)), some (.inl (ω1.2.2.2 (am_w (l3 + 1)).toNat)), some (.inl (ω1.2.2.2 (am_w (l3 + 2)).toNat)), none], [], ω1)) (fun z2 ω2 => if z1 = z2 then (am_run (240, 0) 1708 ([some (.inr (.inr ((-2)))), some (.inr (.inr l1)), some (.inr (.inr l2)), some (.inl l3)], [], ω2)) else (some (some (.inl 0), ω2)))) else none) else none) else none)) else none) else none := by
  refine Eq.trans (rr_aload_n rfl rfl) ?_
  refine Eq.trans (rr_aload_n rfl rfl) ?_
  refine Eq.trans (rr_iload_n rfl rfl) ?_
  refine Eq.trans (rr_iconst rfl rfl) ?_
  refine Eq.trans (rr_iadd rfl) ?_
  refine ck_it (fun h => rr_scrload rfl rfl h) (fun h => rr_scrload_no rfl rfl h) (fun h1 => ?_)
  refine Eq.trans (rr_aload_n rfl rfl) ?_
  refine Eq.trans (rr_iload_n rfl rfl) ?_
  refine Eq.trans (rr_iconst rfl rfl) ?_
  refine Eq.trans (rr_iadd rfl) ?_
  refine ck_it (fun h => rr_scrload rfl rfl h) (fun h => rr_scrload_no rfl rfl h) (fun h2 => ?_)
  refine Eq.trans (rr_invV0i (S' := []) (L' := [some (.inr (.inr l1)), some (.inl (ω.2.2.2 (am_w (l3 + 1)).toNat)), some (.inl (ω.2.2.2 (am_w (l3 + 2)).toNat)), none]) (m' := (93, 0)) rfl rfl rfl rfl rfl rfl h3) ?_
  refine bi_cg (fun z1 ω1 => ?_)
  refine Eq.trans (rr_aload_n rfl rfl) ?_
  refine Eq.trans (rr_aload_n rfl rfl) ?_
  refine Eq.trans (rr_iload_n rfl rfl) ?_
  refine Eq.trans (rr_iconst rfl rfl) ?_
  refine Eq.trans (rr_iadd rfl) ?_
  refine ck_it (fun h => rr_scrload rfl rfl h) (fun h => rr_scrload_no rfl rfl h) (fun h4 => ?_)
  refine Eq.trans (rr_aload_n rfl rfl) ?_
  refine Eq.trans (rr_iload_n rfl rfl) ?_
  refine Eq.trans (rr_iconst rfl rfl) ?_
  refine Eq.trans (rr_iadd rfl) ?_
  refine ck_it (fun h => rr_scrload rfl rfl h) (fun h => rr_scrload_no rfl rfl h) (fun h5 => ?_)
  refine ck_it (fun h => rr_invV0i (S' := [.inl z1]) (L' := [some (.inr (.inr l2)), some (.inl (ω1.2.2.2 (am_w (l3 + 1)).toNat)), some (.inl (ω1.2.2.2 (am_w (l3 + 2)).toNat)), none]) (m' := (167, 0)) rfl rfl rfl rfl rfl rfl h) (fun h => rr_invV0_no (S' := [.inl z1]) (L' := [some (.inr (.inr l2)), some (.inl (ω1.2.2.2 (am_w (l3 + 1)).toNat)), some (.inl (ω1.2.2.2 (am_w (l3 + 2)).toNat)), none]) (m' := (167, 0)) rfl rfl rfl rfl rfl rfl h) (fun h6 => ?_)
  refine bi_cg (fun z2 ω2 => ?_)
  refine Eq.trans (rr_icmp_eq rfl rfl) (it_cg (fun _ => ?_) (fun _ => ?_))
  · rfl
  · refine Eq.trans (rr_iconst rfl rfl) ?_
    exact rr_ireturn rfl rfl
theorem pL_law_615 (l1 l2 l3 : Int) (ω : am_W) (h5 : am_is ω l1 (6, 10) = true) : am_run (240, 0) 615 ([some (.inr (.inr ((-2)))), some (.inr (.inr l1)), some (.inr (.inr l2)), some (.inl l3)], [], ω) = if (decide (0 ≤ (am_w (l3 + 1))) && decide ((am_w (l3 + 1)) < (ω.2.2.1 : Int))) = true then (if (decide (0 ≤ (am_w (l3 + 2))) && decide ((am_w (l3 + 2)) < (ω.2.2.1 : Int))) = true then (if (decide (0 ≤ (am_w (l3 + 3))) && decide ((am_w (l3 + 3)) < (ω.2.2.1 : Int))) = true then (if (decide (0 ≤ (am_w (l3 + 4))) && decide ((am_w (l3 + 4)) < (ω.2.2.1 : Int))) = true then (am_bi (am_run (94, 0) 0 ([some (.inr (.inr l1)), some (.inl (ω.2.2.2 (am_w (l3 + 1)).toNat)), some (.inl (ω.2.2.2 (am_w (l3 + 2)).toNat)), some (.inl (ω.2.2.2 (am_w (l3 + 3)).toNat)), some (.inl (ω.2.2.2 (am_w (l3 + 4)).toNat))], [], ω)) (fun z1 ω1 => if (decide (0 ≤ (am_w (l3 + 1))) && decide ((am_w (l3 + 1)) < (ω1.2.2.1 : Int))) = true then (if (decide (0 ≤ (am_w (l3 + 2))) && decide ((am_w (l3 + 2)) < (ω1.2.2.1 : Int))) = true then (if (decide (0 ≤ (am_w (l3 + 3))) && decide ((am_w (l3 + 3)) < (ω1.2.2.1 : Int))) = true then (if (decide (0 ≤ (am_w (l3 + 4))) && decide ((am_w (l3 + 4)) < (ω1.2.2.1 : Int))) = true then (if am_is ω1 l2 (7, 30) = true then (am_bi (am_run (169, 0) 0 ([some (.inr (.inr l2)), some (.inl (ω1.2.2.2 (am_w (l3 + 1)).toNat)), some (.inl (ω1.2.2.2 (am_w (l3 + 2)).toNat)), some (.inl (ω1.2.2.2 (am_w (l3 + 3)).toNat)), some (.inl (ω1.2.2.2 (am_w (l3 + 4)).toNat))], [], ω1)) (fun z2 ω2 => if z1 = z2 then (am_run (240, 0) 1708 ([some (.inr (.inr ((-2)))), some (.inr (.inr l1)), some (.inr (.inr l2)), some (.inl l3)], [], ω2)) else (some (some (.inl 0), ω2)))) else none) else none) else none) else none) else none)) else none) else none) else none) else none := by
  refine Eq.trans (rr_aload_n rfl rfl) ?_
  refine Eq.trans (rr_aload_n rfl rfl) ?_
  refine Eq.trans (rr_iload_n rfl rfl) ?_
  refine Eq.trans (rr_iconst rfl rfl) ?_
  refine Eq.trans (rr_iadd rfl) ?_
  refine ck_it (fun h => rr_scrload rfl rfl h) (fun h => rr_scrload_no rfl rfl h) (fun h1 => ?_)
  refine Eq.trans (rr_aload_n rfl rfl) ?_
  refine Eq.trans (rr_iload_n rfl rfl) ?_
  refine Eq.trans (rr_iconst rfl rfl) ?_
  refine Eq.trans (rr_iadd rfl) ?_
  refine ck_it (fun h => rr_scrload rfl rfl h) (fun h => rr_scrload_no rfl rfl h) (fun h2 => ?_)
  refine Eq.trans (rr_aload_n rfl rfl) ?_
  refine Eq.trans (rr_iload_n rfl rfl) ?_
  refine Eq.trans (rr_iconst rfl rfl) ?_
  refine Eq.trans (rr_iadd rfl) ?_
  refine ck_it (fun h => rr_scrload rfl rfl h) (fun h => rr_scrload_no rfl rfl h) (fun h3 => ?_)
  refine Eq.trans (rr_aload_n rfl rfl) ?_
  refine Eq.trans (rr_iload_n rfl rfl) ?_
  refine Eq.trans (rr_iconst rfl rfl) ?_
  refine Eq.trans (rr_iadd rfl) ?_
  refine ck_it (fun h => rr_scrload rfl rfl h) (fun h => rr_scrload_no rfl rfl h) (fun h4 => ?_)
  refine Eq.trans (rr_invV0i (S' := []) (L' := [some (.inr (.inr l1)), some (.inl (ω.2.2.2 (am_w (l3 + 1)).toNat)), some (.inl (ω.2.2.2 (am_w (l3 + 2)).toNat)), some (.inl (ω.2.2.2 (am_w (l3 + 3)).toNat)), some (.inl (ω.2.2.2 (am_w (l3 + 4)).toNat))]) (m' := (94, 0)) rfl rfl rfl rfl rfl rfl h5) ?_
  refine bi_cg (fun z1 ω1 => ?_)
  refine Eq.trans (rr_aload_n rfl rfl) ?_
  refine Eq.trans (rr_aload_n rfl rfl) ?_
  refine Eq.trans (rr_iload_n rfl rfl) ?_
  refine Eq.trans (rr_iconst rfl rfl) ?_
  refine Eq.trans (rr_iadd rfl) ?_
  refine ck_it (fun h => rr_scrload rfl rfl h) (fun h => rr_scrload_no rfl rfl h) (fun h6 => ?_)
  refine Eq.trans (rr_aload_n rfl rfl) ?_
  refine Eq.trans (rr_iload_n rfl rfl) ?_
  refine Eq.trans (rr_iconst rfl rfl) ?_
  refine Eq.trans (rr_iadd rfl) ?_
  refine ck_it (fun h => rr_scrload rfl rfl h) (fun h => rr_scrload_no rfl rfl h) (fun h7 => ?_)
  refine Eq.trans (rr_aload_n rfl rfl) ?_
  refine Eq.trans (rr_iload_n rfl rfl) ?_
  refine Eq.trans (rr_iconst rfl rfl) ?_
  refine Eq.trans (rr_iadd rfl) ?_
  refine ck_it (fun h => rr_scrload rfl rfl h) (fun h => rr_scrload_no rfl rfl h) (fun h8 => ?_)
  refine Eq.trans (rr_aload_n rfl rfl) ?_
  refine Eq.trans (rr_iload_n rfl rfl) ?_
  refine Eq.trans (rr_iconst rfl rfl) ?_
  refine Eq.trans (rr_iadd rfl) ?_
  refine ck_it (fun h => rr_scrload rfl rfl h) (fun h => rr_scrload_no rfl rfl h) (fun h9 => ?_)
  refine ck_it (fun h => rr_invV0i (S' := [.inl z1]) (L' := [some (.inr (.inr l2)), some (.inl (ω1.2.2.2 (am_w (l3 + 1)).toNat)), some (.inl (ω1.2.2.2 (am_w (l3 + 2)).toNat)), some (.inl (ω1.2.2.2 (am_w (l3 + 3)).toNat)), some (.inl (ω1.2.2.2 (am_w (l3 + 4)).toNat))]) (m' := (169, 0)) rfl rfl rfl rfl rfl rfl h) (fun h => rr_invV0_no (S' := [.inl z1]) (L' := [some (.inr (.inr l2)), some (.inl (ω1.2.2.2 (am_w (l3 + 1)).toNat)), some (.inl (ω1.2.2.2 (am_w (l3 + 2)).toNat)), some (.inl (ω1.2.2.2 (am_w (l3 + 3)).toNat)), some (.inl (ω1.2.2.2 (am_w (l3 + 4)).toNat))]) (m' := (169, 0)) rfl rfl rfl rfl rfl rfl h) (fun h10 => ?_)
  refine bi_cg (fun z2 ω2 => ?_)
  refine Eq.trans (rr_icmp_eq rfl rfl) (it_cg (fun _ => ?_) (fun _ => ?_))
  · rfl
  · refine Eq.trans (rr_iconst rfl rfl) ?_
    exact rr_ireturn rfl rfl
theorem pL_law_668 (l1 l2 l3 : Int) (ω : am_W) (h3 : am_is ω l1 (6, 10) = true) : am_run (240, 0) 668 ([some (.inr (.inr ((-2)))), some (.inr (.inr l1)), some (.inr (.inr l2)), some (.inl l3)], [], ω) = if (decide (0 ≤ (am_w (l3 + 1))) && decide ((am_w (l3 + 1)) < (ω.2.2.1 : Int))) = true then (if (decide (0 ≤ (am_w (l3 + 2))) && decide ((am_w (l3 + 2)) < (ω.2.2.1 : Int))) = true then (am_bi (am_run (95, 0) 0 ([some (.inr (.inr l1)), some (.inl (ω.2.2.2 (am_w (l3 + 1)).toNat)), some (.inl (ω.2.2.2 (am_w (l3 + 2)).toNat)), none], [], ω)) (fun z1 ω1 => if (decide (0 ≤ (am_w (l3 + 1))) && decide ((am_w (l3 + 1)) < (ω1.2.2.1 : Int))) = true then (if (decide (0 ≤ (am_w (l3 + 2))) && decide ((am_w (l3 + 2)) < (ω1.2.2.1 : Int))) = true then (if am_is ω1 l2 (7, 30) = true then (am_bi (am_run (170, 0) 0 ([some (.inr (.inr l2)), some (.inl (ω1.2.2.2 (am_w (l3 + 1)).toNat)), some (.inl (ω1.2.2.2 (am_w (l3 + 2)).toNat)), none], [], ω1)) (fun z2 ω2 => if z1 = z2 then (am_run (240, 0) 1708 ([some (.inr (.inr ((-2)))), some (.inr (.inr l1)), some (.inr (.inr l2)), some (.inl l3)], [], ω2)) else (some (some (.inl 0), ω2)))) else none) else none) else none)) else none) else none := by
  refine Eq.trans (rr_aload_n rfl rfl) ?_
  refine Eq.trans (rr_aload_n rfl rfl) ?_
  refine Eq.trans (rr_iload_n rfl rfl) ?_
  refine Eq.trans (rr_iconst rfl rfl) ?_
  refine Eq.trans (rr_iadd rfl) ?_
  refine ck_it (fun h => rr_scrload rfl rfl h) (fun h => rr_scrload_no rfl rfl h) (fun h1 => ?_)
  refine Eq.trans (rr_aload_n rfl rfl) ?_
  refine Eq.trans (rr_iload_n rfl rfl) ?_
  refine Eq.trans (rr_iconst rfl rfl) ?_
  refine Eq.trans (rr_iadd rfl) ?_
  refine ck_it (fun h => rr_scrload rfl rfl h) (fun h => rr_scrload_no rfl rfl h) (fun h2 => ?_)
  refine Eq.trans (rr_invV0i (S' := []) (L' := [some (.inr (.inr l1)), some (.inl (ω.2.2.2 (am_w (l3 + 1)).toNat)), some (.inl (ω.2.2.2 (am_w (l3 + 2)).toNat)), none]) (m' := (95, 0)) rfl rfl rfl rfl rfl rfl h3) ?_
  refine bi_cg (fun z1 ω1 => ?_)
  refine Eq.trans (rr_aload_n rfl rfl) ?_
  refine Eq.trans (rr_aload_n rfl rfl) ?_
  refine Eq.trans (rr_iload_n rfl rfl) ?_
  refine Eq.trans (rr_iconst rfl rfl) ?_
  refine Eq.trans (rr_iadd rfl) ?_
  refine ck_it (fun h => rr_scrload rfl rfl h) (fun h => rr_scrload_no rfl rfl h) (fun h4 => ?_)
  refine Eq.trans (rr_aload_n rfl rfl) ?_
  refine Eq.trans (rr_iload_n rfl rfl) ?_
  refine Eq.trans (rr_iconst rfl rfl) ?_
  refine Eq.trans (rr_iadd rfl) ?_
  refine ck_it (fun h => rr_scrload rfl rfl h) (fun h => rr_scrload_no rfl rfl h) (fun h5 => ?_)
  refine ck_it (fun h => rr_invV0i (S' := [.inl z1]) (L' := [some (.inr (.inr l2)), some (.inl (ω1.2.2.2 (am_w (l3 + 1)).toNat)), some (.inl (ω1.2.2.2 (am_w (l3 + 2)).toNat)), none]) (m' := (170, 0)) rfl rfl rfl rfl rfl rfl h) (fun h => rr_invV0_no (S' := [.inl z1]) (L' := [some (.inr (.inr l2)), some (.inl (ω1.2.2.2 (am_w (l3 + 1)).toNat)), some (.inl (ω1.2.2.2 (am_w (l3 + 2)).toNat)), none]) (m' := (170, 0)) rfl rfl rfl rfl rfl rfl h) (fun h6 => ?_)
  refine bi_cg (fun z2 ω2 => ?_)
  refine Eq.trans (rr_icmp_eq rfl rfl) (it_cg (fun _ => ?_) (fun _ => ?_))
  · rfl
  · refine Eq.trans (rr_iconst rfl rfl) ?_
    exact rr_ireturn rfl rfl
theorem pL_law_701 (l1 l2 l3 : Int) (ω : am_W) (h2 : am_is ω l1 (6, 10) = true) : am_run (240, 0) 701 ([some (.inr (.inr ((-2)))), some (.inr (.inr l1)), some (.inr (.inr l2)), some (.inl l3)], [], ω) = if (decide (0 ≤ (am_w (l3 + 1))) && decide ((am_w (l3 + 1)) < (ω.2.2.1 : Int))) = true then (am_bi (am_run (96, 0) 0 ([some (.inr (.inr l1)), some (.inl (ω.2.2.2 (am_w (l3 + 1)).toNat))], [], ω)) (fun z1 ω1 => if (decide (0 ≤ (am_w (l3 + 1))) && decide ((am_w (l3 + 1)) < (ω1.2.2.1 : Int))) = true then (if am_is ω1 l2 (7, 30) = true then (am_bi (am_run (171, 0) 0 ([some (.inr (.inr l2)), some (.inl (ω1.2.2.2 (am_w (l3 + 1)).toNat))], [], ω1)) (fun z2 ω2 => if z1 = z2 then (am_run (240, 0) 1708 ([some (.inr (.inr ((-2)))), some (.inr (.inr l1)), some (.inr (.inr l2)), some (.inl l3)], [], ω2)) else (some (some (.inl 0), ω2)))) else none) else none)) else none := by
  refine Eq.trans (rr_aload_n rfl rfl) ?_
  refine Eq.trans (rr_aload_n rfl rfl) ?_
  refine Eq.trans (rr_iload_n rfl rfl) ?_
  refine Eq.trans (rr_iconst rfl rfl) ?_
  refine Eq.trans (rr_iadd rfl) ?_
  refine ck_it (fun h => rr_scrload rfl rfl h) (fun h => rr_scrload_no rfl rfl h) (fun h1 => ?_)
  refine Eq.trans (rr_invV0i (S' := []) (L' := [some (.inr (.inr l1)), some (.inl (ω.2.2.2 (am_w (l3 + 1)).toNat))]) (m' := (96, 0)) rfl rfl rfl rfl rfl rfl h2) ?_
  refine bi_cg (fun z1 ω1 => ?_)
  refine Eq.trans (rr_aload_n rfl rfl) ?_
  refine Eq.trans (rr_aload_n rfl rfl) ?_
  refine Eq.trans (rr_iload_n rfl rfl) ?_
  refine Eq.trans (rr_iconst rfl rfl) ?_
  refine Eq.trans (rr_iadd rfl) ?_
  refine ck_it (fun h => rr_scrload rfl rfl h) (fun h => rr_scrload_no rfl rfl h) (fun h3 => ?_)
  refine ck_it (fun h => rr_invV0i (S' := [.inl z1]) (L' := [some (.inr (.inr l2)), some (.inl (ω1.2.2.2 (am_w (l3 + 1)).toNat))]) (m' := (171, 0)) rfl rfl rfl rfl rfl rfl h) (fun h => rr_invV0_no (S' := [.inl z1]) (L' := [some (.inr (.inr l2)), some (.inl (ω1.2.2.2 (am_w (l3 + 1)).toNat))]) (m' := (171, 0)) rfl rfl rfl rfl rfl rfl h) (fun h4 => ?_)
  refine bi_cg (fun z2 ω2 => ?_)
  refine Eq.trans (rr_icmp_eq rfl rfl) (it_cg (fun _ => ?_) (fun _ => ?_))
  · rfl
  · refine Eq.trans (rr_iconst rfl rfl) ?_
    exact rr_ireturn rfl rfl
theorem pL_law_724 (l1 l2 l3 : Int) (ω : am_W) (h1 : am_is ω l1 (6, 10) = true) : am_run (240, 0) 724 ([some (.inr (.inr ((-2)))), some (.inr (.inr l1)), some (.inr (.inr l2)), some (.inl l3)], [], ω) = am_bi (am_run (97, 0) 0 ([some (.inr (.inr l1)), none], [], ω)) (fun z1 ω1 => if am_is ω1 l2 (7, 30) = true then (am_bi (am_run (172, 0) 0 ([some (.inr (.inr l2)), none], [], ω1)) (fun z2 ω2 => if z1 = z2 then (am_run (240, 0) 1708 ([some (.inr (.inr ((-2)))), some (.inr (.inr l1)), some (.inr (.inr l2)), some (.inl l3)], [], ω2)) else (some (some (.inl 0), ω2)))) else none) := by
  refine Eq.trans (rr_aload_n rfl rfl) ?_
  refine Eq.trans (rr_invV0i (S' := []) (L' := [some (.inr (.inr l1)), none]) (m' := (97, 0)) rfl rfl rfl rfl rfl rfl h1) ?_
  refine bi_cg (fun z1 ω1 => ?_)
  refine Eq.trans (rr_aload_n rfl rfl) ?_
  refine ck_it (fun h => rr_invV0i (S' := [.inl z1]) (L' := [some (.inr (.inr l2)), none]) (m' := (172, 0)) rfl rfl rfl rfl rfl rfl h) (fun h => rr_invV0_no (S' := [.inl z1]) (L' := [some (.inr (.inr l2)), none]) (m' := (172, 0)) rfl rfl rfl rfl rfl rfl h) (fun h2 => ?_)
  refine bi_cg (fun z2 ω2 => ?_)
  refine Eq.trans (rr_icmp_eq rfl rfl) (it_cg (fun _ => ?_) (fun _ => ?_))
  · rfl
  · refine Eq.trans (rr_iconst rfl rfl) ?_
    exact rr_ireturn rfl rfl
theorem pL_law_737 (l1 l2 l3 : Int) (ω : am_W) (h1 : am_is ω l1 (6, 10) = true) : am_run (240, 0) 737 ([some (.inr (.inr ((-2)))), some (.inr (.inr l1)), some (.inr (.inr l2)), some (.inl l3)], [], ω) = am_bi (am_run (98, 0) 0 ([some (.inr (.inr l1)), none], [], ω)) (fun z1 ω1 => if am_is ω1 l2 (7, 30) = true then (am_bi (am_run (179, 0) 0 ([some (.inr (.inr l2)), none, none], [], ω1)) (fun z2 ω2 => if z1 = z2 then (am_run (240, 0) 1708 ([some (.inr (.inr ((-2)))), some (.inr (.inr l1)), some (.inr (.inr l2)), some (.inl l3)], [], ω2)) else (some (some (.inl 0), ω2)))) else none) := by
  refine Eq.trans (rr_aload_n rfl rfl) ?_
  refine Eq.trans (rr_invV0i (S' := []) (L' := [some (.inr (.inr l1)), none]) (m' := (98, 0)) rfl rfl rfl rfl rfl rfl h1) ?_
  refine bi_cg (fun z1 ω1 => ?_)
  refine Eq.trans (rr_aload_n rfl rfl) ?_
  refine ck_it (fun h => rr_invV0i (S' := [.inl z1]) (L' := [some (.inr (.inr l2)), none, none]) (m' := (179, 0)) rfl rfl rfl rfl rfl rfl h) (fun h => rr_invV0_no (S' := [.inl z1]) (L' := [some (.inr (.inr l2)), none, none]) (m' := (179, 0)) rfl rfl rfl rfl rfl rfl h) (fun h2 => ?_)
  refine bi_cg (fun z2 ω2 => ?_)
  refine Eq.trans (rr_icmp_eq rfl rfl) (it_cg (fun _ => ?_) (fun _ => ?_))
  · rfl
  · refine Eq.trans (rr_iconst rfl rfl) ?_
    exact rr_ireturn rfl rfl
theorem pL_law_750 (l1 l2 l3 : Int) (ω : am_W) (h3 : am_is ω l1 (6, 10) = true) : am_run (240, 0) 750 ([some (.inr (.inr ((-2)))), some (.inr (.inr l1)), some (.inr (.inr l2)), some (.inl l3)], [], ω) = if (decide (0 ≤ (am_w (l3 + 1))) && decide ((am_w (l3 + 1)) < (ω.2.2.1 : Int))) = true then (if (decide (0 ≤ (am_w (l3 + 2))) && decide ((am_w (l3 + 2)) < (ω.2.2.1 : Int))) = true then (am_bi (am_run (99, 0) 0 ([some (.inr (.inr l1)), some (.inl (ω.2.2.2 (am_w (l3 + 1)).toNat)), some (.inl (ω.2.2.2 (am_w (l3 + 2)).toNat)), none], [], ω)) (fun z1 ω1 => if (decide (0 ≤ (am_w (l3 + 1))) && decide ((am_w (l3 + 1)) < (ω1.2.2.1 : Int))) = true then (if (decide (0 ≤ (am_w (l3 + 2))) && decide ((am_w (l3 + 2)) < (ω1.2.2.1 : Int))) = true then (if am_is ω1 l2 (7, 30) = true then (am_bi (am_run (180, 0) 0 ([some (.inr (.inr l2)), some (.inl (ω1.2.2.2 (am_w (l3 + 1)).toNat)), some (.inl (ω1.2.2.2 (am_w (l3 + 2)).toNat))], [], ω1)) (fun z2 ω2 => if z1 = z2 then (am_run (240, 0) 1708 ([some (.inr (.inr ((-2)))), some (.inr (.inr l1)), some (.inr (.inr l2)), some (.inl l3)], [], ω2)) else (some (some (.inl 0), ω2)))) else none) else none) else none)) else none) else none := by
  refine Eq.trans (rr_aload_n rfl rfl) ?_
  refine Eq.trans (rr_aload_n rfl rfl) ?_
  refine Eq.trans (rr_iload_n rfl rfl) ?_
  refine Eq.trans (rr_iconst rfl rfl) ?_
  refine Eq.trans (rr_iadd rfl) ?_
  refine ck_it (fun h => rr_scrload rfl rfl h) (fun h => rr_scrload_no rfl rfl h) (fun h1 => ?_)
  refine Eq.trans (rr_aload_n rfl rfl) ?_
  refine Eq.trans (rr_iload_n rfl rfl) ?_
  refine Eq.trans (rr_iconst rfl rfl) ?_
  refine Eq.trans (rr_iadd rfl) ?_
  refine ck_it (fun h => rr_scrload rfl rfl h) (fun h => rr_scrload_no rfl rfl h) (fun h2 => ?_)
  refine Eq.trans (rr_invV0i (S' := []) (L' := [some (.inr (.inr l1)), some (.inl (ω.2.2.2 (am_w (l3 + 1)).toNat)), some (.inl (ω.2.2.2 (am_w (l3 + 2)).toNat)), none]) (m' := (99, 0)) rfl rfl rfl rfl rfl rfl h3) ?_
  refine bi_cg (fun z1 ω1 => ?_)
  refine Eq.trans (rr_aload_n rfl rfl) ?_
  refine Eq.trans (rr_aload_n rfl rfl) ?_
  refine Eq.trans (rr_iload_n rfl rfl) ?_
  refine Eq.trans (rr_iconst rfl rfl) ?_
  refine Eq.trans (rr_iadd rfl) ?_
  refine ck_it (fun h => rr_scrload rfl rfl h) (fun h => rr_scrload_no rfl rfl h) (fun h4 => ?_)
  refine Eq.trans (rr_aload_n rfl rfl) ?_
  refine Eq.trans (rr_iload_n rfl rfl) ?_
  refine Eq.trans (rr_iconst rfl rfl) ?_
  refine Eq.trans (rr_iadd rfl) ?_
  refine ck_it (fun h => rr_scrload rfl rfl h) (fun h => rr_scrload_no rfl rfl h) (fun h5 => ?_)
  refine ck_it (fun h => rr_invV0i (S' := [.inl z1]) (L' := [some (.inr (.inr l2)), some (.inl (ω1.2.2.2 (am_w (l3 + 1)).toNat)), some (.inl (ω1.2.2.2 (am_w (l3 + 2)).toNat))]) (m' := (180, 0)) rfl rfl rfl rfl rfl rfl h) (fun h => rr_invV0_no (S' := [.inl z1]) (L' := [some (.inr (.inr l2)), some (.inl (ω1.2.2.2 (am_w (l3 + 1)).toNat)), some (.inl (ω1.2.2.2 (am_w (l3 + 2)).toNat))]) (m' := (180, 0)) rfl rfl rfl rfl rfl rfl h) (fun h6 => ?_)
  refine bi_cg (fun z2 ω2 => ?_)
  refine Eq.trans (rr_icmp_eq rfl rfl) (it_cg (fun _ => ?_) (fun _ => ?_))
  · rfl
  · refine Eq.trans (rr_iconst rfl rfl) ?_
    exact rr_ireturn rfl rfl
theorem pL_law_783 (l1 l2 l3 : Int) (ω : am_W) (h3 : am_is ω l1 (6, 10) = true) : am_run (240, 0) 783 ([some (.inr (.inr ((-2)))), some (.inr (.inr l1)), some (.inr (.inr l2)), some (.inl l3)], [], ω) = if (decide (0 ≤ (am_w (l3 + 1))) && decide ((am_w (l3 + 1)) < (ω.2.2.1 : Int))) = true then (if (decide (0 ≤ (am_w (l3 + 2))) && decide ((am_w (l3 + 2)) < (ω.2.2.1 : Int))) = true then (am_bi (am_run (100, 0) 0 ([some (.inr (.inr l1)), some (.inl (ω.2.2.2 (am_w (l3 + 1)).toNat)), some (.inl (ω.2.2.2 (am_w (l3 + 2)).toNat))], [], ω)) (fun z1 ω1 => if (decide (0 ≤ (am_w (l3 + 1))) && decide ((am_w (l3 + 1)) < (ω1.2.2.1 : Int))) = true then (if (decide (0 ≤ (am_w (l3 + 2))) && decide ((am_w (l3 + 2)) < (ω1.2.2.1 : Int))) = true then (if am_is ω1 l2 (7, 30) = true then (am_bi (am_run (181, 0) 0 ([some (.inr (.inr l2)), some (.inl (ω1.2.2.2 (am_w (l3 + 1)).toNat)), some (.inl (ω1.2.2.2 (am_w (l3 + 2)).toNat))], [], ω1)) (fun z2 ω2 => if z1 = z2 then (am_run (240, 0) 1708 ([some (.inr (.inr ((-2)))), some (.inr (.inr l1)), some (.inr (.inr l2)), some (.inl l3)], [], ω2)) else (some (some (.inl 0), ω2)))) else none) else none) else none)) else none) else none := by
  refine Eq.trans (rr_aload_n rfl rfl) ?_
  refine Eq.trans (rr_aload_n rfl rfl) ?_
  refine Eq.trans (rr_iload_n rfl rfl) ?_
  refine Eq.trans (rr_iconst rfl rfl) ?_
  refine Eq.trans (rr_iadd rfl) ?_
  refine ck_it (fun h => rr_scrload rfl rfl h) (fun h => rr_scrload_no rfl rfl h) (fun h1 => ?_)
  refine Eq.trans (rr_aload_n rfl rfl) ?_
  refine Eq.trans (rr_iload_n rfl rfl) ?_
  refine Eq.trans (rr_iconst rfl rfl) ?_
  refine Eq.trans (rr_iadd rfl) ?_
  refine ck_it (fun h => rr_scrload rfl rfl h) (fun h => rr_scrload_no rfl rfl h) (fun h2 => ?_)
  refine Eq.trans (rr_invV0i (S' := []) (L' := [some (.inr (.inr l1)), some (.inl (ω.2.2.2 (am_w (l3 + 1)).toNat)), some (.inl (ω.2.2.2 (am_w (l3 + 2)).toNat))]) (m' := (100, 0)) rfl rfl rfl rfl rfl rfl h3) ?_
  refine bi_cg (fun z1 ω1 => ?_)
  refine Eq.trans (rr_aload_n rfl rfl) ?_
  refine Eq.trans (rr_aload_n rfl rfl) ?_
  refine Eq.trans (rr_iload_n rfl rfl) ?_
  refine Eq.trans (rr_iconst rfl rfl) ?_
  refine Eq.trans (rr_iadd rfl) ?_
  refine ck_it (fun h => rr_scrload rfl rfl h) (fun h => rr_scrload_no rfl rfl h) (fun h4 => ?_)
  refine Eq.trans (rr_aload_n rfl rfl) ?_
  refine Eq.trans (rr_iload_n rfl rfl) ?_
  refine Eq.trans (rr_iconst rfl rfl) ?_
  refine Eq.trans (rr_iadd rfl) ?_
  refine ck_it (fun h => rr_scrload rfl rfl h) (fun h => rr_scrload_no rfl rfl h) (fun h5 => ?_)
  refine ck_it (fun h => rr_invV0i (S' := [.inl z1]) (L' := [some (.inr (.inr l2)), some (.inl (ω1.2.2.2 (am_w (l3 + 1)).toNat)), some (.inl (ω1.2.2.2 (am_w (l3 + 2)).toNat))]) (m' := (181, 0)) rfl rfl rfl rfl rfl rfl h) (fun h => rr_invV0_no (S' := [.inl z1]) (L' := [some (.inr (.inr l2)), some (.inl (ω1.2.2.2 (am_w (l3 + 1)).toNat)), some (.inl (ω1.2.2.2 (am_w (l3 + 2)).toNat))]) (m' := (181, 0)) rfl rfl rfl rfl rfl rfl h) (fun h6 => ?_)
  refine bi_cg (fun z2 ω2 => ?_)
  refine Eq.trans (rr_icmp_eq rfl rfl) (it_cg (fun _ => ?_) (fun _ => ?_))
  · rfl
  · refine Eq.trans (rr_iconst rfl rfl) ?_
    exact rr_ireturn rfl rfl
theorem pL_law_816 (l1 l2 l3 : Int) (ω : am_W) (h3 : am_is ω l1 (6, 10) = true) : am_run (240, 0) 816 ([some (.inr (.inr ((-2)))), some (.inr (.inr l1)), some (.inr (.inr l2)), some (.inl l3)], [], ω) = if (decide (0 ≤ (am_w (l3 + 1))) && decide ((am_w (l3 + 1)) < (ω.2.2.1 : Int))) = true then (if (decide (0 ≤ (am_w (l3 + 2))) && decide ((am_w (l3 + 2)) < (ω.2.2.1 : Int))) = true then (am_bi (am_run (101, 0) 0 ([some (.inr (.inr l1)), some (.inl (ω.2.2.2 (am_w (l3 + 1)).toNat)), some (.inl (ω.2.2.2 (am_w (l3 + 2)).toNat)), none], [], ω)) (fun z1 ω1 => if (decide (0 ≤ (am_w (l3 + 1))) && decide ((am_w (l3 + 1)) < (ω1.2.2.1 : Int))) = true then (if (decide (0 ≤ (am_w (l3 + 2))) && decide ((am_w (l3 + 2)) < (ω1.2.2.1 : Int))) = true then (if am_is ω1 l2 (7, 30) = true then (am_bi (am_run (192, 0) 0 ([some (.inr (.inr l2)), some (.inl (ω1.2.2.2 (am_w (l3 + 1)).toNat)), some (.inl (ω1.2.2.2 (am_w (l3 + 2)).toNat))], [], ω1)) (fun z2 ω2 => if z1 = z2 then (am_run (240, 0) 1708 ([some (.inr (.inr ((-2)))), some (.inr (.inr l1)), some (.inr (.inr l2)), some (.inl l3)], [], ω2)) else (some (some (.inl 0), ω2)))) else none) else none) else none)) else none) else none := by
  refine Eq.trans (rr_aload_n rfl rfl) ?_
  refine Eq.trans (rr_aload_n rfl rfl) ?_
  refine Eq.trans (rr_iload_n rfl rfl) ?_
  refine Eq.trans (rr_iconst rfl rfl) ?_
  refine Eq.trans (rr_iadd rfl) ?_
  refine ck_it (fun h => rr_scrload rfl rfl h) (fun h => rr_scrload_no rfl rfl h) (fun h1 => ?_)
  refine Eq.trans (rr_aload_n rfl rfl) ?_
  refine Eq.trans (rr_iload_n rfl rfl) ?_
  refine Eq.trans (rr_iconst rfl rfl) ?_
  refine Eq.trans (rr_iadd rfl) ?_
  refine ck_it (fun h => rr_scrload rfl rfl h) (fun h => rr_scrload_no rfl rfl h) (fun h2 => ?_)
  refine Eq.trans (rr_invV0i (S' := []) (L' := [some (.inr (.inr l1)), some (.inl (ω.2.2.2 (am_w (l3 + 1)).toNat)), some (.inl (ω.2.2.2 (am_w (l3 + 2)).toNat)), none]) (m' := (101, 0)) rfl rfl rfl rfl rfl rfl h3) ?_
  refine bi_cg (fun z1 ω1 => ?_)
  refine Eq.trans (rr_aload_n rfl rfl) ?_
  refine Eq.trans (rr_aload_n rfl rfl) ?_
  refine Eq.trans (rr_iload_n rfl rfl) ?_
  refine Eq.trans (rr_iconst rfl rfl) ?_
  refine Eq.trans (rr_iadd rfl) ?_
  refine ck_it (fun h => rr_scrload rfl rfl h) (fun h => rr_scrload_no rfl rfl h) (fun h4 => ?_)
  refine Eq.trans (rr_aload_n rfl rfl) ?_
  refine Eq.trans (rr_iload_n rfl rfl) ?_
  refine Eq.trans (rr_iconst rfl rfl) ?_
  refine Eq.trans (rr_iadd rfl) ?_
  refine ck_it (fun h => rr_scrload rfl rfl h) (fun h => rr_scrload_no rfl rfl h) (fun h5 => ?_)
  refine ck_it (fun h => rr_invV0i (S' := [.inl z1]) (L' := [some (.inr (.inr l2)), some (.inl (ω1.2.2.2 (am_w (l3 + 1)).toNat)), some (.inl (ω1.2.2.2 (am_w (l3 + 2)).toNat))]) (m' := (192, 0)) rfl rfl rfl rfl rfl rfl h) (fun h => rr_invV0_no (S' := [.inl z1]) (L' := [some (.inr (.inr l2)), some (.inl (ω1.2.2.2 (am_w (l3 + 1)).toNat)), some (.inl (ω1.2.2.2 (am_w (l3 + 2)).toNat))]) (m' := (192, 0)) rfl rfl rfl rfl rfl rfl h) (fun h6 => ?_)
  refine bi_cg (fun z2 ω2 => ?_)
  refine Eq.trans (rr_icmp_eq rfl rfl) (it_cg (fun _ => ?_) (fun _ => ?_))
  · rfl
  · refine Eq.trans (rr_iconst rfl rfl) ?_
    exact rr_ireturn rfl rfl
theorem pL_law_849 (l1 l2 l3 : Int) (ω : am_W) (h4 : am_is ω l1 (6, 10) = true) : am_run (240, 0) 849 ([some (.inr (.inr ((-2)))), some (.inr (.inr l1)), some (.inr (.inr l2)), some (.inl l3)], [], ω) = if (decide (0 ≤ (am_w (l3 + 1))) && decide ((am_w (l3 + 1)) < (ω.2.2.1 : Int))) = true then (if (decide (0 ≤ (am_w (l3 + 2))) && decide ((am_w (l3 + 2)) < (ω.2.2.1 : Int))) = true then (if (decide (0 ≤ (am_w (l3 + 3))) && decide ((am_w (l3 + 3)) < (ω.2.2.1 : Int))) = true then (am_bi (am_run (102, 0) 0 ([some (.inr (.inr l1)), some (.inl (ω.2.2.2 (am_w (l3 + 1)).toNat)), some (.inl (ω.2.2.2 (am_w (l3 + 2)).toNat)), some (.inl (ω.2.2.2 (am_w (l3 + 3)).toNat)), none], [], ω)) (fun z1 ω1 => if (decide (0 ≤ (am_w (l3 + 1))) && decide ((am_w (l3 + 1)) < (ω1.2.2.1 : Int))) = true then (if (decide (0 ≤ (am_w (l3 + 2))) && decide ((am_w (l3 + 2)) < (ω1.2.2.1 : Int))) = true then (if (decide (0 ≤ (am_w (l3 + 3))) && decide ((am_w (l3 + 3)) < (ω1.2.2.1 : Int))) = true then (if am_is ω1 l2 (7, 30) = true then (am_bi (am_run (193, 0) 0 ([some (.inr (.inr l2)), some (.inl (ω1.2.2.2 (am_w (l3 + 1)).toNat)), some (.inl (ω1.2.2.2 (am_w (l3 + 2)).toNat)), some (.inl (ω1.2.2.2 (am_w (l3 + 3)).toNat)), none, none], [], ω1)) (fun z2 ω2 => if z1 = z2 then (am_run (240, 0) 1708 ([some (.inr (.inr ((-2)))), some (.inr (.inr l1)), some (.inr (.inr l2)), some (.inl l3)], [], ω2)) else (some (some (.inl 0), ω2)))) else none) else none) else none) else none)) else none) else none) else none := by
  refine Eq.trans (rr_aload_n rfl rfl) ?_
  refine Eq.trans (rr_aload_n rfl rfl) ?_
  refine Eq.trans (rr_iload_n rfl rfl) ?_
  refine Eq.trans (rr_iconst rfl rfl) ?_
  refine Eq.trans (rr_iadd rfl) ?_
  refine ck_it (fun h => rr_scrload rfl rfl h) (fun h => rr_scrload_no rfl rfl h) (fun h1 => ?_)
  refine Eq.trans (rr_aload_n rfl rfl) ?_
  refine Eq.trans (rr_iload_n rfl rfl) ?_
  refine Eq.trans (rr_iconst rfl rfl) ?_
  refine Eq.trans (rr_iadd rfl) ?_
  refine ck_it (fun h => rr_scrload rfl rfl h) (fun h => rr_scrload_no rfl rfl h) (fun h2 => ?_)
  refine Eq.trans (rr_aload_n rfl rfl) ?_
  refine Eq.trans (rr_iload_n rfl rfl) ?_
  refine Eq.trans (rr_iconst rfl rfl) ?_
  refine Eq.trans (rr_iadd rfl) ?_
  refine ck_it (fun h => rr_scrload rfl rfl h) (fun h => rr_scrload_no rfl rfl h) (fun h3 => ?_)
  refine Eq.trans (rr_invV0i (S' := []) (L' := [some (.inr (.inr l1)), some (.inl (ω.2.2.2 (am_w (l3 + 1)).toNat)), some (.inl (ω.2.2.2 (am_w (l3 + 2)).toNat)), some (.inl (ω.2.2.2 (am_w (l3 + 3)).toNat)), none]) (m' := (102, 0)) rfl rfl rfl rfl rfl rfl h4) ?_
  refine bi_cg (fun z1 ω1 => ?_)
  refine Eq.trans (rr_aload_n rfl rfl) ?_
  refine Eq.trans (rr_aload_n rfl rfl) ?_
  refine Eq.trans (rr_iload_n rfl rfl) ?_
  refine Eq.trans (rr_iconst rfl rfl) ?_
  refine Eq.trans (rr_iadd rfl) ?_
  refine ck_it (fun h => rr_scrload rfl rfl h) (fun h => rr_scrload_no rfl rfl h) (fun h5 => ?_)
  refine Eq.trans (rr_aload_n rfl rfl) ?_
  refine Eq.trans (rr_iload_n rfl rfl) ?_
  refine Eq.trans (rr_iconst rfl rfl) ?_
  refine Eq.trans (rr_iadd rfl) ?_
  refine ck_it (fun h => rr_scrload rfl rfl h) (fun h => rr_scrload_no rfl rfl h) (fun h6 => ?_)
  refine Eq.trans (rr_aload_n rfl rfl) ?_
  refine Eq.trans (rr_iload_n rfl rfl) ?_
  refine Eq.trans (rr_iconst rfl rfl) ?_
  refine Eq.trans (rr_iadd rfl) ?_
  refine ck_it (fun h => rr_scrload rfl rfl h) (fun h => rr_scrload_no rfl rfl h) (fun h7 => ?_)
  refine ck_it (fun h => rr_invV0i (S' := [.inl z1]) (L' := [some (.inr (.inr l2)), some (.inl (ω1.2.2.2 (am_w (l3 + 1)).toNat)), some (.inl (ω1.2.2.2 (am_w (l3 + 2)).toNat)), some (.inl (ω1.2.2.2 (am_w (l3 + 3)).toNat)), none, none]) (m' := (193, 0)) rfl rfl rfl rfl rfl rfl h) (fun h => rr_invV0_no (S' := [.inl z1]) (L' := [some (.inr (.inr l2)), some (.inl (ω1.2.2.2 (am_w (l3 + 1)).toNat)), some (.inl (ω1.2.2.2 (am_w (l3 + 2)).toNat)), some (.inl (ω1.2.2.2 (am_w (l3 + 3)).toNat)), none, none]) (m' := (193, 0)) rfl rfl rfl rfl rfl rfl h) (fun h8 => ?_)
  refine bi_cg (fun z2 ω2 => ?_)
  refine Eq.trans (rr_icmp_eq rfl rfl) (it_cg (fun _ => ?_) (fun _ => ?_))
  · rfl
  · refine Eq.trans (rr_iconst rfl rfl) ?_
    exact rr_ireturn rfl rfl
theorem pL_law_892 (l1 l2 l3 : Int) (ω : am_W) (h3 : am_is ω l1 (6, 10) = true) : am_run (240, 0) 892 ([some (.inr (.inr ((-2)))), some (.inr (.inr l1)), some (.inr (.inr l2)), some (.inl l3)], [], ω) = if (decide (0 ≤ (am_w (l3 + 1))) && decide ((am_w (l3 + 1)) < (ω.2.2.1 : Int))) = true then (if (decide (0 ≤ (am_w (l3 + 2))) && decide ((am_w (l3 + 2)) < (ω.2.2.1 : Int))) = true then (am_bi (am_run (103, 0) 0 ([some (.inr (.inr l1)), some (.inl (ω.2.2.2 (am_w (l3 + 1)).toNat)), some (.inl (ω.2.2.2 (am_w (l3 + 2)).toNat))], [], ω)) (fun z1 ω1 => if (decide (0 ≤ (am_w (l3 + 1))) && decide ((am_w (l3 + 1)) < (ω1.2.2.1 : Int))) = true then (if (decide (0 ≤ (am_w (l3 + 2))) && decide ((am_w (l3 + 2)) < (ω1.2.2.1 : Int))) = true then (if am_is ω1 l2 (7, 30) = true then (am_bi (am_run (194, 0) 0 ([some (.inr (.inr l2)), some (.inl (ω1.2.2.2 (am_w (l3 + 1)).toNat)), some (.inl (ω1.2.2.2 (am_w (l3 + 2)).toNat))], [], ω1)) (fun z2 ω2 => if z1 = z2 then (am_run (240, 0) 1708 ([some (.inr (.inr ((-2)))), some (.inr (.inr l1)), some (.inr (.inr l2)), some (.inl l3)], [], ω2)) else (some (some (.inl 0), ω2)))) else none) else none) else none)) else none) else none := by
  refine Eq.trans (rr_aload_n rfl rfl) ?_
  refine Eq.trans (rr_aload_n rfl rfl) ?_
  refine Eq.trans (rr_iload_n rfl rfl) ?_
  refine Eq.trans (rr_iconst rfl rfl) ?_
  refine Eq.trans (rr_iadd rfl) ?_
  refine ck_it (fun h => rr_scrload rfl rfl h) (fun h => rr_scrload_no rfl rfl h) (fun h1 => ?_)
  refine Eq.trans (rr_aload_n rfl rfl) ?_
  refine Eq.trans (rr_iload_n rfl rfl) ?_
  refine Eq.trans (rr_iconst rfl rfl) ?_
  refine Eq.trans (rr_iadd rfl) ?_
  refine ck_it (fun h => rr_scrload rfl rfl h) (fun h => rr_scrload_no rfl rfl h) (fun h2 => ?_)
  refine Eq.trans (rr_invV0i (S' := []) (L' := [some (.inr (.inr l1)), some (.inl (ω.2.2.2 (am_w (l3 + 1)).toNat)), some (.inl (ω.2.2.2 (am_w (l3 + 2)).toNat))]) (m' := (103, 0)) rfl rfl rfl rfl rfl rfl h3) ?_
  refine bi_cg (fun z1 ω1 => ?_)
  refine Eq.trans (rr_aload_n rfl rfl) ?_
  refine Eq.trans (rr_aload_n rfl rfl) ?_
  refine Eq.trans (rr_iload_n rfl rfl) ?_
  refine Eq.trans (rr_iconst rfl rfl) ?_
  refine Eq.trans (rr_iadd rfl) ?_
  refine ck_it (fun h => rr_scrload rfl rfl h) (fun h => rr_scrload_no rfl rfl h) (fun h4 => ?_)
  refine Eq.trans (rr_aload_n rfl rfl) ?_
  refine Eq.trans (rr_iload_n rfl rfl) ?_
  refine Eq.trans (rr_iconst rfl rfl) ?_
  refine Eq.trans (rr_iadd rfl) ?_
  refine ck_it (fun h => rr_scrload rfl rfl h) (fun h => rr_scrload_no rfl rfl h) (fun h5 => ?_)
  refine ck_it (fun h => rr_invV0i (S' := [.inl z1]) (L' := [some (.inr (.inr l2)), some (.inl (ω1.2.2.2 (am_w (l3 + 1)).toNat)), some (.inl (ω1.2.2.2 (am_w (l3 + 2)).toNat))]) (m' := (194, 0)) rfl rfl rfl rfl rfl rfl h) (fun h => rr_invV0_no (S' := [.inl z1]) (L' := [some (.inr (.inr l2)), some (.inl (ω1.2.2.2 (am_w (l3 + 1)).toNat)), some (.inl (ω1.2.2.2 (am_w (l3 + 2)).toNat))]) (m' := (194, 0)) rfl rfl rfl rfl rfl rfl h) (fun h6 => ?_)
  refine bi_cg (fun z2 ω2 => ?_)
  refine Eq.trans (rr_icmp_eq rfl rfl) (it_cg (fun _ => ?_) (fun _ => ?_))
  · rfl
  · refine Eq.trans (rr_iconst rfl rfl) ?_
    exact rr_ireturn rfl rfl
theorem pL_law_925 (l1 l2 l3 : Int) (ω : am_W) (h4 : am_is ω l1 (6, 10) = true) : am_run (240, 0) 925 ([some (.inr (.inr ((-2)))), some (.inr (.inr l1)), some (.inr (.inr l2)), some (.inl l3)], [], ω) = if (decide (0 ≤ (am_w (l3 + 1))) && decide ((am_w (l3 + 1)) < (ω.2.2.1 : Int))) = true then (if (decide (0 ≤ (am_w (l3 + 2))) && decide ((am_w (l3 + 2)) < (ω.2.2.1 : Int))) = true then (if (decide (0 ≤ (am_w (l3 + 3))) && decide ((am_w (l3 + 3)) < (ω.2.2.1 : Int))) = true then (am_bi (am_run (104, 0) 0 ([some (.inr (.inr l1)), some (.inl (ω.2.2.2 (am_w (l3 + 1)).toNat)), some (.inl (ω.2.2.2 (am_w (l3 + 2)).toNat)), some (.inl (ω.2.2.2 (am_w (l3 + 3)).toNat)), none], [], ω)) (fun z1 ω1 => if (decide (0 ≤ (am_w (l3 + 1))) && decide ((am_w (l3 + 1)) < (ω1.2.2.1 : Int))) = true then (if (decide (0 ≤ (am_w (l3 + 2))) && decide ((am_w (l3 + 2)) < (ω1.2.2.1 : Int))) = true then (if (decide (0 ≤ (am_w (l3 + 3))) && decide ((am_w (l3 + 3)) < (ω1.2.2.1 : Int))) = true then (if am_is ω1 l2 (7, 30) = true then (am_bi (am_run (197, 0) 0 ([some (.inr (.inr l2)), some (.inl (ω1.2.2.2 (am_w (l3 + 1)).toNat)), some (.inl (ω1.2.2.2 (am_w (l3 + 2)).toNat)), some (.inl (ω1.2.2.2 (am_w (l3 + 3)).toNat)), none, none], [], ω1)) (fun z2 ω2 => if z1 = z2 then (am_run (240, 0) 1708 ([some (.inr (.inr ((-2)))), some (.inr (.inr l1)), some (.inr (.inr l2)), some (.inl l3)], [], ω2)) else (some (some (.inl 0), ω2)))) else none) else none) else none) else none)) else none) else none) else none := by
  refine Eq.trans (rr_aload_n rfl rfl) ?_
  refine Eq.trans (rr_aload_n rfl rfl) ?_
  refine Eq.trans (rr_iload_n rfl rfl) ?_
  refine Eq.trans (rr_iconst rfl rfl) ?_
  refine Eq.trans (rr_iadd rfl) ?_
  refine ck_it (fun h => rr_scrload rfl rfl h) (fun h => rr_scrload_no rfl rfl h) (fun h1 => ?_)
  refine Eq.trans (rr_aload_n rfl rfl) ?_
  refine Eq.trans (rr_iload_n rfl rfl) ?_
  refine Eq.trans (rr_iconst rfl rfl) ?_
  refine Eq.trans (rr_iadd rfl) ?_
  refine ck_it (fun h => rr_scrload rfl rfl h) (fun h => rr_scrload_no rfl rfl h) (fun h2 => ?_)
  refine Eq.trans (rr_aload_n rfl rfl) ?_
  refine Eq.trans (rr_iload_n rfl rfl) ?_
  refine Eq.trans (rr_iconst rfl rfl) ?_
  refine Eq.trans (rr_iadd rfl) ?_
  refine ck_it (fun h => rr_scrload rfl rfl h) (fun h => rr_scrload_no rfl rfl h) (fun h3 => ?_)
  refine Eq.trans (rr_invV0i (S' := []) (L' := [some (.inr (.inr l1)), some (.inl (ω.2.2.2 (am_w (l3 + 1)).toNat)), some (.inl (ω.2.2.2 (am_w (l3 + 2)).toNat)), some (.inl (ω.2.2.2 (am_w (l3 + 3)).toNat)), none]) (m' := (104, 0)) rfl rfl rfl rfl rfl rfl h4) ?_
  refine bi_cg (fun z1 ω1 => ?_)
  refine Eq.trans (rr_aload_n rfl rfl) ?_
  refine Eq.trans (rr_aload_n rfl rfl) ?_
  refine Eq.trans (rr_iload_n rfl rfl) ?_
  refine Eq.trans (rr_iconst rfl rfl) ?_
  refine Eq.trans (rr_iadd rfl) ?_
  refine ck_it (fun h => rr_scrload rfl rfl h) (fun h => rr_scrload_no rfl rfl h) (fun h5 => ?_)
  refine Eq.trans (rr_aload_n rfl rfl) ?_
  refine Eq.trans (rr_iload_n rfl rfl) ?_
  refine Eq.trans (rr_iconst rfl rfl) ?_
  refine Eq.trans (rr_iadd rfl) ?_
  refine ck_it (fun h => rr_scrload rfl rfl h) (fun h => rr_scrload_no rfl rfl h) (fun h6 => ?_)
  refine Eq.trans (rr_aload_n rfl rfl) ?_
  refine Eq.trans (rr_iload_n rfl rfl) ?_
  refine Eq.trans (rr_iconst rfl rfl) ?_
  refine Eq.trans (rr_iadd rfl) ?_
  refine ck_it (fun h => rr_scrload rfl rfl h) (fun h => rr_scrload_no rfl rfl h) (fun h7 => ?_)
  refine ck_it (fun h => rr_invV0i (S' := [.inl z1]) (L' := [some (.inr (.inr l2)), some (.inl (ω1.2.2.2 (am_w (l3 + 1)).toNat)), some (.inl (ω1.2.2.2 (am_w (l3 + 2)).toNat)), some (.inl (ω1.2.2.2 (am_w (l3 + 3)).toNat)), none, none]) (m' := (197, 0)) rfl rfl rfl rfl rfl rfl h) (fun h => rr_invV0_no (S' := [.inl z1]) (L' := [some (.inr (.inr l2)), some (.inl (ω1.2.2.2 (am_w (l3 + 1)).toNat)), some (.inl (ω1.2.2.2 (am_w (l3 + 2)).toNat)), some (.inl (ω1.2.2.2 (am_w (l3 + 3)).toNat)), none, none]) (m' := (197, 0)) rfl rfl rfl rfl rfl rfl h) (fun h8 => ?_)
  refine bi_cg (fun z2 ω2 => ?_)
  refine Eq.trans (rr_icmp_eq rfl rfl) (it_cg (fun _ => ?_) (fun _ => ?_))
  · rfl
  · refine Eq.trans (rr_iconst rfl rfl) ?_
    exact rr_ireturn rfl rfl
theorem pL_law_968 (l1 l2 l3 : Int) (ω : am_W) (h5 : am_is ω l1 (6, 10) = true) : am_run (240, 0) 968 ([some (.inr (.inr ((-2)))), some (.inr (.inr l1)), some (.inr (.inr l2)), some (.inl l3)], [], ω) = if (decide (0 ≤ (am_w (l3 + 1))) && decide ((am_w (l3 + 1)) < (ω.2.2.1 : Int))) = true then (if (decide (0 ≤ (am_w (l3 + 2))) && decide ((am_w (l3 + 2)) < (ω.2.2.1 : Int))) = true then (if (decide (0 ≤ (am_w (l3 + 3))) && decide ((am_w (l3 + 3)) < (ω.2.2.1 : Int))) = true then (if (decide (0 ≤ (am_w (l3 + 4))) && decide ((am_w (l3 + 4)) < (ω.2.2.1 : Int))) = true then (am_bi (am_run (105, 0) 0 ([some (.inr (.inr l1)), some (.inl (ω.2.2.2 (am_w (l3 + 1)).toNat)), some (.inl (ω.2.2.2 (am_w (l3 + 2)).toNat)), some (.inl (ω.2.2.2 (am_w (l3 + 3)).toNat)), some (.inl (ω.2.2.2 (am_w (l3 + 4)).toNat)), none], [], ω)) (fun z1 ω1 => if (decide (0 ≤ (am_w (l3 + 1))) && decide ((am_w (l3 + 1)) < (ω1.2.2.1 : Int))) = true then (if (decide (0 ≤ (am_w (l3 + 2))) && decide ((am_w (l3 + 2)) < (ω1.2.2.1 : Int))) = true then (if (decide (0 ≤ (am_w (l3 + 3))) && decide ((am_w (l3 + 3)) < (ω1.2.2.1 : Int))) = true then (if (decide (0 ≤ (am_w (l3 + 4))) && decide ((am_w (l3 + 4)) < (ω1.2.2.1 : Int))) = true then (if am_is ω1 l2 (7, 30) = true then (am_bi (am_run (198, 0) 0 ([some (.inr (.inr l2)), some (.inl (ω1.2.2.2 (am_w (l3 + 1)).toNat)), some (.inl (ω1.2.2.2 (am_w (l3 + 2)).toNat)), some (.inl (ω1.2.2.2 (am_w (l3 + 3)).toNat)), some (.inl (ω1.2.2.2 (am_w (l3 + 4)).toNat)), none, none, none], [], ω1)) (fun z2 ω2 => if z1 = z2 then (am_run (240, 0) 1708 ([some (.inr (.inr ((-2)))), some (.inr (.inr l1)), some (.inr (.inr l2)), some (.inl l3)], [], ω2)) else (some (some (.inl 0), ω2)))) else none) else none) else none) else none) else none)) else none) else none) else none) else none := by
  refine Eq.trans (rr_aload_n rfl rfl) ?_
  refine Eq.trans (rr_aload_n rfl rfl) ?_
  refine Eq.trans (rr_iload_n rfl rfl) ?_
  refine Eq.trans (rr_iconst rfl rfl) ?_
  refine Eq.trans (rr_iadd rfl) ?_
  refine ck_it (fun h => rr_scrload rfl rfl h) (fun h => rr_scrload_no rfl rfl h) (fun h1 => ?_)
  refine Eq.trans (rr_aload_n rfl rfl) ?_
  refine Eq.trans (rr_iload_n rfl rfl) ?_
  refine Eq.trans (rr_iconst rfl rfl) ?_
  refine Eq.trans (rr_iadd rfl) ?_
  refine ck_it (fun h => rr_scrload rfl rfl h) (fun h => rr_scrload_no rfl rfl h) (fun h2 => ?_)
  refine Eq.trans (rr_aload_n rfl rfl) ?_
  refine Eq.trans (rr_iload_n rfl rfl) ?_
  refine Eq.trans (rr_iconst rfl rfl) ?_
  refine Eq.trans (rr_iadd rfl) ?_
  refine ck_it (fun h => rr_scrload rfl rfl h) (fun h => rr_scrload_no rfl rfl h) (fun h3 => ?_)
  refine Eq.trans (rr_aload_n rfl rfl) ?_
  refine Eq.trans (rr_iload_n rfl rfl) ?_
  refine Eq.trans (rr_iconst rfl rfl) ?_
  refine Eq.trans (rr_iadd rfl) ?_
  refine ck_it (fun h => rr_scrload rfl rfl h) (fun h => rr_scrload_no rfl rfl h) (fun h4 => ?_)
  refine Eq.trans (rr_invV0i (S' := []) (L' := [some (.inr (.inr l1)), some (.inl (ω.2.2.2 (am_w (l3 + 1)).toNat)), some (.inl (ω.2.2.2 (am_w (l3 + 2)).toNat)), some (.inl (ω.2.2.2 (am_w (l3 + 3)).toNat)), some (.inl (ω.2.2.2 (am_w (l3 + 4)).toNat)), none]) (m' := (105, 0)) rfl rfl rfl rfl rfl rfl h5) ?_
  refine bi_cg (fun z1 ω1 => ?_)
  refine Eq.trans (rr_aload_n rfl rfl) ?_
  refine Eq.trans (rr_aload_n rfl rfl) ?_
  refine Eq.trans (rr_iload_n rfl rfl) ?_
  refine Eq.trans (rr_iconst rfl rfl) ?_
  refine Eq.trans (rr_iadd rfl) ?_
  refine ck_it (fun h => rr_scrload rfl rfl h) (fun h => rr_scrload_no rfl rfl h) (fun h6 => ?_)
  refine Eq.trans (rr_aload_n rfl rfl) ?_
  refine Eq.trans (rr_iload_n rfl rfl) ?_
  refine Eq.trans (rr_iconst rfl rfl) ?_
  refine Eq.trans (rr_iadd rfl) ?_
  refine ck_it (fun h => rr_scrload rfl rfl h) (fun h => rr_scrload_no rfl rfl h) (fun h7 => ?_)
  refine Eq.trans (rr_aload_n rfl rfl) ?_
  refine Eq.trans (rr_iload_n rfl rfl) ?_
  refine Eq.trans (rr_iconst rfl rfl) ?_
  refine Eq.trans (rr_iadd rfl) ?_
  refine ck_it (fun h => rr_scrload rfl rfl h) (fun h => rr_scrload_no rfl rfl h) (fun h8 => ?_)
  refine Eq.trans (rr_aload_n rfl rfl) ?_
  refine Eq.trans (rr_iload_n rfl rfl) ?_
  refine Eq.trans (rr_iconst rfl rfl) ?_
  refine Eq.trans (rr_iadd rfl) ?_
  refine ck_it (fun h => rr_scrload rfl rfl h) (fun h => rr_scrload_no rfl rfl h) (fun h9 => ?_)
  refine ck_it (fun h => rr_invV0i (S' := [.inl z1]) (L' := [some (.inr (.inr l2)), some (.inl (ω1.2.2.2 (am_w (l3 + 1)).toNat)), some (.inl (ω1.2.2.2 (am_w (l3 + 2)).toNat)), some (.inl (ω1.2.2.2 (am_w (l3 + 3)).toNat)), some (.inl (ω1.2.2.2 (am_w (l3 + 4)).toNat)), none, none, none]) (m' := (198, 0)) rfl rfl rfl rfl rfl rfl h) (fun h => rr_invV0_no (S' := [.inl z1]) (L' := [some (.inr (.inr l2)), some (.inl (ω1.2.2.2 (am_w (l3 + 1)).toNat)), some (.inl (ω1.2.2.2 (am_w (l3 + 2)).toNat)), some (.inl (ω1.2.2.2 (am_w (l3 + 3)).toNat)), some (.inl (ω1.2.2.2 (am_w (l3 + 4)).toNat)), none, none, none]) (m' := (198, 0)) rfl rfl rfl rfl rfl rfl h) (fun h10 => ?_)
  refine bi_cg (fun z2 ω2 => ?_)
  refine Eq.trans (rr_icmp_eq rfl rfl) (it_cg (fun _ => ?_) (fun _ => ?_))
  · rfl
  · refine Eq.trans (rr_iconst rfl rfl) ?_
    exact rr_ireturn rfl rfl
theorem pL_law_1021 (l1 l2 l3 : Int) (ω : am_W) (h5 : am_is ω l1 (6, 10) = true) : am_run (240, 0) 1021 ([some (.inr (.inr ((-2)))), some (.inr (.inr l1)), some (.inr (.inr l2)), some (.inl l3)], [], ω) = if (decide (0 ≤ (am_w (l3 + 1))) && decide ((am_w (l3 + 1)) < (ω.2.2.1 : Int))) = true then (if (decide (0 ≤ (am_w (l3 + 2))) && decide ((am_w (l3 + 2)) < (ω.2.2.1 : Int))) = true then (if (decide (0 ≤ (am_w (l3 + 3))) && decide ((am_w (l3 + 3)) < (ω.2.2.1 : Int))) = true then (if (decide (0 ≤ (am_w (l3 + 4))) && decide ((am_w (l3 + 4)) < (ω.2.2.1 : Int))) = true then (am_bi (am_run (106, 0) 0 ([some (.inr (.inr l1)), some (.inl (ω.2.2.2 (am_w (l3 + 1)).toNat)), some (.inl (ω.2.2.2 (am_w (l3 + 2)).toNat)), some (.inl (ω.2.2.2 (am_w (l3 + 3)).toNat)), some (.inl (ω.2.2.2 (am_w (l3 + 4)).toNat)), none], [], ω)) (fun z1 ω1 => if (decide (0 ≤ (am_w (l3 + 1))) && decide ((am_w (l3 + 1)) < (ω1.2.2.1 : Int))) = true then (if (decide (0 ≤ (am_w (l3 + 2))) && decide ((am_w (l3 + 2)) < (ω1.2.2.1 : Int))) = true then (if (decide (0 ≤ (am_w (l3 + 3))) && decide ((am_w (l3 + 3)) < (ω1.2.2.1 : Int))) = true then (if (decide (0 ≤ (am_w (l3 + 4))) && decide ((am_w (l3 + 4)) < (ω1.2.2.1 : Int))) = true then (if am_is ω1 l2 (7, 30) = true then (am_bi (am_run (199, 0) 0 ([some (.inr (.inr l2)), some (.inl (ω1.2.2.2 (am_w (l3 + 1)).toNat)), some (.inl (ω1.2.2.2 (am_w (l3 + 2)).toNat)), some (.inl (ω1.2.2.2 (am_w (l3 + 3)).toNat)), some (.inl (ω1.2.2.2 (am_w (l3 + 4)).toNat)), none, none], [], ω1)) (fun z2 ω2 => if z1 = z2 then (am_run (240, 0) 1708 ([some (.inr (.inr ((-2)))), some (.inr (.inr l1)), some (.inr (.inr l2)), some (.inl l3)], [], ω2)) else (some (some (.inl 0), ω2)))) else none) else none) else none) else none) else none)) else none) else none) else none) else none := by
  refine Eq.trans (rr_aload_n rfl rfl) ?_
  refine Eq.trans (rr_aload_n rfl rfl) ?_
  refine Eq.trans (rr_iload_n rfl rfl) ?_
  refine Eq.trans (rr_iconst rfl rfl) ?_
  refine Eq.trans (rr_iadd rfl) ?_
  refine ck_it (fun h => rr_scrload rfl rfl h) (fun h => rr_scrload_no rfl rfl h) (fun h1 => ?_)
  refine Eq.trans (rr_aload_n rfl rfl) ?_
  refine Eq.trans (rr_iload_n rfl rfl) ?_
  refine Eq.trans (rr_iconst rfl rfl) ?_
  refine Eq.trans (rr_iadd rfl) ?_
  refine ck_it (fun h => rr_scrload rfl rfl h) (fun h => rr_scrload_no rfl rfl h) (fun h2 => ?_)
  refine Eq.trans (rr_aload_n rfl rfl) ?_
  refine Eq.trans (rr_iload_n rfl rfl) ?_
  refine Eq.trans (rr_iconst rfl rfl) ?_
  refine Eq.trans (rr_iadd rfl) ?_
  refine ck_it (fun h => rr_scrload rfl rfl h) (fun h => rr_scrload_no rfl rfl h) (fun h3 => ?_)
  refine Eq.trans (rr_aload_n rfl rfl) ?_
  refine Eq.trans (rr_iload_n rfl rfl) ?_
  refine Eq.trans (rr_iconst rfl rfl) ?_
  refine Eq.trans (rr_iadd rfl) ?_
  refine ck_it (fun h => rr_scrload rfl rfl h) (fun h => rr_scrload_no rfl rfl h) (fun h4 => ?_)
  refine Eq.trans (rr_invV0i (S' := []) (L' := [some (.inr (.inr l1)), some (.inl (ω.2.2.2 (am_w (l3 + 1)).toNat)), some (.inl (ω.2.2.2 (am_w (l3 + 2)).toNat)), some (.inl (ω.2.2.2 (am_w (l3 + 3)).toNat)), some (.inl (ω.2.2.2 (am_w (l3 + 4)).toNat)), none]) (m' := (106, 0)) rfl rfl rfl rfl rfl rfl h5) ?_
  refine bi_cg (fun z1 ω1 => ?_)
  refine Eq.trans (rr_aload_n rfl rfl) ?_
  refine Eq.trans (rr_aload_n rfl rfl) ?_
  refine Eq.trans (rr_iload_n rfl rfl) ?_
  refine Eq.trans (rr_iconst rfl rfl) ?_
  refine Eq.trans (rr_iadd rfl) ?_
  refine ck_it (fun h => rr_scrload rfl rfl h) (fun h => rr_scrload_no rfl rfl h) (fun h6 => ?_)
  refine Eq.trans (rr_aload_n rfl rfl) ?_
  refine Eq.trans (rr_iload_n rfl rfl) ?_
  refine Eq.trans (rr_iconst rfl rfl) ?_
  refine Eq.trans (rr_iadd rfl) ?_
  refine ck_it (fun h => rr_scrload rfl rfl h) (fun h => rr_scrload_no rfl rfl h) (fun h7 => ?_)
  refine Eq.trans (rr_aload_n rfl rfl) ?_
  refine Eq.trans (rr_iload_n rfl rfl) ?_
  refine Eq.trans (rr_iconst rfl rfl) ?_
  refine Eq.trans (rr_iadd rfl) ?_
  refine ck_it (fun h => rr_scrload rfl rfl h) (fun h => rr_scrload_no rfl rfl h) (fun h8 => ?_)
  refine Eq.trans (rr_aload_n rfl rfl) ?_
  refine Eq.trans (rr_iload_n rfl rfl) ?_
  refine Eq.trans (rr_iconst rfl rfl) ?_
  refine Eq.trans (rr_iadd rfl) ?_
  refine ck_it (fun h => rr_scrload rfl rfl h) (fun h => rr_scrload_no rfl rfl h) (fun h9 => ?_)
  refine ck_it (fun h => rr_invV0i (S' := [.inl z1]) (L' := [some (.inr (.inr l2)), some (.inl (ω1.2.2.2 (am_w (l3 + 1)).toNat)), some (.inl (ω1.2.2.2 (am_w (l3 + 2)).toNat)), some (.inl (ω1.2.2.2 (am_w (l3 + 3)).toNat)), some (.inl (ω1.2.2.2 (am_w (l3 + 4)).toNat)), none, none]) (m' := (199, 0)) rfl rfl rfl rfl rfl rfl h) (fun h => rr_invV0_no (S' := [.inl z1]) (L' := [some (.inr (.inr l2)), some (.inl (ω1.2.2.2 (am_w (l3 + 1)).toNat)), some (.inl (ω1.2.2.2 (am_w (l3 + 2)).toNat)), some (.inl (ω1.2.2.2 (am_w (l3 + 3)).toNat)), some (.inl (ω1.2.2.2 (am_w (l3 + 4)).toNat)), none, none]) (m' := (199, 0)) rfl rfl rfl rfl rfl rfl h) (fun h10 => ?_)
  refine bi_cg (fun z2 ω2 => ?_)
  refine Eq.trans (rr_icmp_eq rfl rfl) (it_cg (fun _ => ?_) (fun _ => ?_))
  · rfl
  · refine Eq.trans (rr_iconst rfl rfl) ?_
    exact rr_ireturn rfl rfl
theorem pL_law_1074 (l1 l2 l3 : Int) (ω : am_W) (h4 : am_is ω l1 (6, 10) = true) : am_run (240, 0) 1074 ([some (.inr (.inr ((-2)))), some (.inr (.inr l1)), some (.inr (.inr l2)), some (.inl l3)], [], ω) = if (decide (0 ≤ (am_w (l3 + 1))) && decide ((am_w (l3 + 1)) < (ω.2.2.1 : Int))) = true then (if (decide (0 ≤ (am_w (l3 + 2))) && decide ((am_w (l3 + 2)) < (ω.2.2.1 : Int))) = true then (if (decide (0 ≤ (am_w (l3 + 3))) && decide ((am_w (l3 + 3)) < (ω.2.2.1 : Int))) = true then (am_bi (am_run (107, 0) 0 ([some (.inr (.inr l1)), some (.inl (ω.2.2.2 (am_w (l3 + 1)).toNat)), some (.inl (ω.2.2.2 (am_w (l3 + 2)).toNat)), some (.inl (ω.2.2.2 (am_w (l3 + 3)).toNat))], [], ω)) (fun z1 ω1 => if (decide (0 ≤ (am_w (l3 + 1))) && decide ((am_w (l3 + 1)) < (ω1.2.2.1 : Int))) = true then (if (decide (0 ≤ (am_w (l3 + 2))) && decide ((am_w (l3 + 2)) < (ω1.2.2.1 : Int))) = true then (if (decide (0 ≤ (am_w (l3 + 3))) && decide ((am_w (l3 + 3)) < (ω1.2.2.1 : Int))) = true then (if am_is ω1 l2 (7, 30) = true then (am_bi (am_run (206, 0) 0 ([some (.inr (.inr l2)), some (.inl (ω1.2.2.2 (am_w (l3 + 1)).toNat)), some (.inl (ω1.2.2.2 (am_w (l3 + 2)).toNat)), some (.inl (ω1.2.2.2 (am_w (l3 + 3)).toNat)), none], [], ω1)) (fun z2 ω2 => if z1 = z2 then (am_run (240, 0) 1708 ([some (.inr (.inr ((-2)))), some (.inr (.inr l1)), some (.inr (.inr l2)), some (.inl l3)], [], ω2)) else (some (some (.inl 0), ω2)))) else none) else none) else none) else none)) else none) else none) else none := by
  refine Eq.trans (rr_aload_n rfl rfl) ?_
  refine Eq.trans (rr_aload_n rfl rfl) ?_
  refine Eq.trans (rr_iload_n rfl rfl) ?_
  refine Eq.trans (rr_iconst rfl rfl) ?_
  refine Eq.trans (rr_iadd rfl) ?_
  refine ck_it (fun h => rr_scrload rfl rfl h) (fun h => rr_scrload_no rfl rfl h) (fun h1 => ?_)
  refine Eq.trans (rr_aload_n rfl rfl) ?_
  refine Eq.trans (rr_iload_n rfl rfl) ?_
  refine Eq.trans (rr_iconst rfl rfl) ?_
  refine Eq.trans (rr_iadd rfl) ?_
  refine ck_it (fun h => rr_scrload rfl rfl h) (fun h => rr_scrload_no rfl rfl h) (fun h2 => ?_)
  refine Eq.trans (rr_aload_n rfl rfl) ?_
  refine Eq.trans (rr_iload_n rfl rfl) ?_
  refine Eq.trans (rr_iconst rfl rfl) ?_
  refine Eq.trans (rr_iadd rfl) ?_
  refine ck_it (fun h => rr_scrload rfl rfl h) (fun h => rr_scrload_no rfl rfl h) (fun h3 => ?_)
  refine Eq.trans (rr_invV0i (S' := []) (L' := [some (.inr (.inr l1)), some (.inl (ω.2.2.2 (am_w (l3 + 1)).toNat)), some (.inl (ω.2.2.2 (am_w (l3 + 2)).toNat)), some (.inl (ω.2.2.2 (am_w (l3 + 3)).toNat))]) (m' := (107, 0)) rfl rfl rfl rfl rfl rfl h4) ?_
  refine bi_cg (fun z1 ω1 => ?_)
  refine Eq.trans (rr_aload_n rfl rfl) ?_
  refine Eq.trans (rr_aload_n rfl rfl) ?_
  refine Eq.trans (rr_iload_n rfl rfl) ?_
  refine Eq.trans (rr_iconst rfl rfl) ?_
  refine Eq.trans (rr_iadd rfl) ?_
  refine ck_it (fun h => rr_scrload rfl rfl h) (fun h => rr_scrload_no rfl rfl h) (fun h5 => ?_)
  refine Eq.trans (rr_aload_n rfl rfl) ?_
  refine Eq.trans (rr_iload_n rfl rfl) ?_
  refine Eq.trans (rr_iconst rfl rfl) ?_
  refine Eq.trans (rr_iadd rfl) ?_
  refine ck_it (fun h => rr_scrload rfl rfl h) (fun h => rr_scrload_no rfl rfl h) (fun h6 => ?_)
  refine Eq.trans (rr_aload_n rfl rfl) ?_
  refine Eq.trans (rr_iload_n rfl rfl) ?_
  refine Eq.trans (rr_iconst rfl rfl) ?_
  refine Eq.trans (rr_iadd rfl) ?_
  refine ck_it (fun h => rr_scrload rfl rfl h) (fun h => rr_scrload_no rfl rfl h) (fun h7 => ?_)
  refine ck_it (fun h => rr_invV0i (S' := [.inl z1]) (L' := [some (.inr (.inr l2)), some (.inl (ω1.2.2.2 (am_w (l3 + 1)).toNat)), some (.inl (ω1.2.2.2 (am_w (l3 + 2)).toNat)), some (.inl (ω1.2.2.2 (am_w (l3 + 3)).toNat)), none]) (m' := (206, 0)) rfl rfl rfl rfl rfl rfl h) (fun h => rr_invV0_no (S' := [.inl z1]) (L' := [some (.inr (.inr l2)), some (.inl (ω1.2.2.2 (am_w (l3 + 1)).toNat)), some (.inl (ω1.2.2.2 (am_w (l3 + 2)).toNat)), some (.inl (ω1.2.2.2 (am_w (l3 + 3)).toNat)), none]) (m' := (206, 0)) rfl rfl rfl rfl rfl rfl h) (fun h8 => ?_)
  refine bi_cg (fun z2 ω2 => ?_)
  refine Eq.trans (rr_icmp_eq rfl rfl) (it_cg (fun _ => ?_) (fun _ => ?_))
  · rfl
  · refine Eq.trans (rr_iconst rfl rfl) ?_
    exact rr_ireturn rfl rfl
theorem pL_law_1117 (l1 l2 l3 : Int) (ω : am_W) (h3 : am_is ω l1 (6, 10) = true) : am_run (240, 0) 1117 ([some (.inr (.inr ((-2)))), some (.inr (.inr l1)), some (.inr (.inr l2)), some (.inl l3)], [], ω) = if (decide (0 ≤ (am_w (l3 + 1))) && decide ((am_w (l3 + 1)) < (ω.2.2.1 : Int))) = true then (if (decide (0 ≤ (am_w (l3 + 2))) && decide ((am_w (l3 + 2)) < (ω.2.2.1 : Int))) = true then (am_bi (am_run (108, 0) 0 ([some (.inr (.inr l1)), some (.inl (ω.2.2.2 (am_w (l3 + 1)).toNat)), some (.inl (ω.2.2.2 (am_w (l3 + 2)).toNat))], [], ω)) (fun z1 ω1 => if (decide (0 ≤ (am_w (l3 + 1))) && decide ((am_w (l3 + 1)) < (ω1.2.2.1 : Int))) = true then (if (decide (0 ≤ (am_w (l3 + 2))) && decide ((am_w (l3 + 2)) < (ω1.2.2.1 : Int))) = true then (if am_is ω1 l2 (7, 30) = true then (am_bi (am_run (207, 0) 0 ([some (.inr (.inr l2)), some (.inl (ω1.2.2.2 (am_w (l3 + 1)).toNat)), some (.inl (ω1.2.2.2 (am_w (l3 + 2)).toNat))], [], ω1)) (fun z2 ω2 => if z1 = z2 then (am_run (240, 0) 1708 ([some (.inr (.inr ((-2)))), some (.inr (.inr l1)), some (.inr (.inr l2)), some (.inl l3)], [], ω2)) else (some (some (.inl 0), ω2)))) else none) else none) else none)) else none) else none := by
  refine Eq.trans (rr_aload_n rfl rfl) ?_
  refine Eq.trans (rr_aload_n rfl rfl) ?_
  refine Eq.trans (rr_iload_n rfl rfl) ?_
  refine Eq.trans (rr_iconst rfl rfl) ?_
  refine Eq.trans (rr_iadd rfl) ?_
  refine ck_it (fun h => rr_scrload rfl rfl h) (fun h => rr_scrload_no rfl rfl h) (fun h1 => ?_)
  refine Eq.trans (rr_aload_n rfl rfl) ?_
  refine Eq.trans (rr_iload_n rfl rfl) ?_
  refine Eq.trans (rr_iconst rfl rfl) ?_
  refine Eq.trans (rr_iadd rfl) ?_
  refine ck_it (fun h => rr_scrload rfl rfl h) (fun h => rr_scrload_no rfl rfl h) (fun h2 => ?_)
  refine Eq.trans (rr_invV0i (S' := []) (L' := [some (.inr (.inr l1)), some (.inl (ω.2.2.2 (am_w (l3 + 1)).toNat)), some (.inl (ω.2.2.2 (am_w (l3 + 2)).toNat))]) (m' := (108, 0)) rfl rfl rfl rfl rfl rfl h3) ?_
  refine bi_cg (fun z1 ω1 => ?_)
  refine Eq.trans (rr_aload_n rfl rfl) ?_
  refine Eq.trans (rr_aload_n rfl rfl) ?_
  refine Eq.trans (rr_iload_n rfl rfl) ?_
  refine Eq.trans (rr_iconst rfl rfl) ?_
  refine Eq.trans (rr_iadd rfl) ?_
  refine ck_it (fun h => rr_scrload rfl rfl h) (fun h => rr_scrload_no rfl rfl h) (fun h4 => ?_)
  refine Eq.trans (rr_aload_n rfl rfl) ?_
  refine Eq.trans (rr_iload_n rfl rfl) ?_
  refine Eq.trans (rr_iconst rfl rfl) ?_
  refine Eq.trans (rr_iadd rfl) ?_
  refine ck_it (fun h => rr_scrload rfl rfl h) (fun h => rr_scrload_no rfl rfl h) (fun h5 => ?_)
  refine ck_it (fun h => rr_invV0i (S' := [.inl z1]) (L' := [some (.inr (.inr l2)), some (.inl (ω1.2.2.2 (am_w (l3 + 1)).toNat)), some (.inl (ω1.2.2.2 (am_w (l3 + 2)).toNat))]) (m' := (207, 0)) rfl rfl rfl rfl rfl rfl h) (fun h => rr_invV0_no (S' := [.inl z1]) (L' := [some (.inr (.inr l2)), some (.inl (ω1.2.2.2 (am_w (l3 + 1)).toNat)), some (.inl (ω1.2.2.2 (am_w (l3 + 2)).toNat))]) (m' := (207, 0)) rfl rfl rfl rfl rfl rfl h) (fun h6 => ?_)
  refine bi_cg (fun z2 ω2 => ?_)
  refine Eq.trans (rr_icmp_eq rfl rfl) (it_cg (fun _ => ?_) (fun _ => ?_))
  · rfl
  · refine Eq.trans (rr_iconst rfl rfl) ?_
    exact rr_ireturn rfl rfl
theorem pL_law_1150 (l1 l2 l3 : Int) (ω : am_W) (h4 : am_is ω l1 (6, 10) = true) : am_run (240, 0) 1150 ([some (.inr (.inr ((-2)))), some (.inr (.inr l1)), some (.inr (.inr l2)), some (.inl l3)], [], ω) = if (decide (0 ≤ (am_w (l3 + 1))) && decide ((am_w (l3 + 1)) < (ω.2.2.1 : Int))) = true then (if (decide (0 ≤ (am_w (l3 + 2))) && decide ((am_w (l3 + 2)) < (ω.2.2.1 : Int))) = true then (if (decide (0 ≤ (am_w (l3 + 3))) && decide ((am_w (l3 + 3)) < (ω.2.2.1 : Int))) = true then (am_bi (am_run (109, 0) 0 ([some (.inr (.inr l1)), some (.inl (ω.2.2.2 (am_w (l3 + 1)).toNat)), some (.inl (ω.2.2.2 (am_w (l3 + 2)).toNat)), some (.inl (ω.2.2.2 (am_w (l3 + 3)).toNat)), none], [], ω)) (fun z1 ω1 => if (decide (0 ≤ (am_w (l3 + 1))) && decide ((am_w (l3 + 1)) < (ω1.2.2.1 : Int))) = true then (if (decide (0 ≤ (am_w (l3 + 2))) && decide ((am_w (l3 + 2)) < (ω1.2.2.1 : Int))) = true then (if (decide (0 ≤ (am_w (l3 + 3))) && decide ((am_w (l3 + 3)) < (ω1.2.2.1 : Int))) = true then (if am_is ω1 l2 (7, 30) = true then (am_bi (am_run (209, 0) 0 ([some (.inr (.inr l2)), some (.inl (ω1.2.2.2 (am_w (l3 + 1)).toNat)), some (.inl (ω1.2.2.2 (am_w (l3 + 2)).toNat)), some (.inl (ω1.2.2.2 (am_w (l3 + 3)).toNat)), none, none, none, none, none, none, none, none], [], ω1)) (fun z2 ω2 => if z1 = z2 then (am_run (240, 0) 1708 ([some (.inr (.inr ((-2)))), some (.inr (.inr l1)), some (.inr (.inr l2)), some (.inl l3)], [], ω2)) else (some (some (.inl 0), ω2)))) else none) else none) else none) else none)) else none) else none) else none := by
  refine Eq.trans (rr_aload_n rfl rfl) ?_
  refine Eq.trans (rr_aload_n rfl rfl) ?_
  refine Eq.trans (rr_iload_n rfl rfl) ?_
  refine Eq.trans (rr_iconst rfl rfl) ?_
  refine Eq.trans (rr_iadd rfl) ?_
  refine ck_it (fun h => rr_scrload rfl rfl h) (fun h => rr_scrload_no rfl rfl h) (fun h1 => ?_)
  refine Eq.trans (rr_aload_n rfl rfl) ?_
  refine Eq.trans (rr_iload_n rfl rfl) ?_
  refine Eq.trans (rr_iconst rfl rfl) ?_
  refine Eq.trans (rr_iadd rfl) ?_
  refine ck_it (fun h => rr_scrload rfl rfl h) (fun h => rr_scrload_no rfl rfl h) (fun h2 => ?_)
  refine Eq.trans (rr_aload_n rfl rfl) ?_
  refine Eq.trans (rr_iload_n rfl rfl) ?_
  refine Eq.trans (rr_iconst rfl rfl) ?_
  refine Eq.trans (rr_iadd rfl) ?_
  refine ck_it (fun h => rr_scrload rfl rfl h) (fun h => rr_scrload_no rfl rfl h) (fun h3 => ?_)
  refine Eq.trans (rr_invV0i (S' := []) (L' := [some (.inr (.inr l1)), some (.inl (ω.2.2.2 (am_w (l3 + 1)).toNat)), some (.inl (ω.2.2.2 (am_w (l3 + 2)).toNat)), some (.inl (ω.2.2.2 (am_w (l3 + 3)).toNat)), none]) (m' := (109, 0)) rfl rfl rfl rfl rfl rfl h4) ?_
  refine bi_cg (fun z1 ω1 => ?_)
  refine Eq.trans (rr_aload_n rfl rfl) ?_
  refine Eq.trans (rr_aload_n rfl rfl) ?_
  refine Eq.trans (rr_iload_n rfl rfl) ?_
  refine Eq.trans (rr_iconst rfl rfl) ?_
  refine Eq.trans (rr_iadd rfl) ?_
  refine ck_it (fun h => rr_scrload rfl rfl h) (fun h => rr_scrload_no rfl rfl h) (fun h5 => ?_)
  refine Eq.trans (rr_aload_n rfl rfl) ?_
  refine Eq.trans (rr_iload_n rfl rfl) ?_
  refine Eq.trans (rr_iconst rfl rfl) ?_
  refine Eq.trans (rr_iadd rfl) ?_
  refine ck_it (fun h => rr_scrload rfl rfl h) (fun h => rr_scrload_no rfl rfl h) (fun h6 => ?_)
  refine Eq.trans (rr_aload_n rfl rfl) ?_
  refine Eq.trans (rr_iload_n rfl rfl) ?_
  refine Eq.trans (rr_iconst rfl rfl) ?_
  refine Eq.trans (rr_iadd rfl) ?_
  refine ck_it (fun h => rr_scrload rfl rfl h) (fun h => rr_scrload_no rfl rfl h) (fun h7 => ?_)
  refine ck_it (fun h => rr_invV0i (S' := [.inl z1]) (L' := [some (.inr (.inr l2)), some (.inl (ω1.2.2.2 (am_w (l3 + 1)).toNat)), some (.inl (ω1.2.2.2 (am_w (l3 + 2)).toNat)), some (.inl (ω1.2.2.2 (am_w (l3 + 3)).toNat)), none, none, none, none, none, none, none, none]) (m' := (209, 0)) rfl rfl rfl rfl rfl rfl h) (fun h => rr_invV0_no (S' := [.inl z1]) (L' := [some (.inr (.inr l2)), some (.inl (ω1.2.2.2 (am_w (l3 + 1)).toNat)), some (.inl (ω1.2.2.2 (am_w (l3 + 2)).toNat)), some (.inl (ω1.2.2.2 (am_w (l3 + 3)).toNat)), none, none, none, none, none, none, none, none]) (m' := (209, 0)) rfl rfl rfl rfl rfl rfl h) (fun h8 => ?_)
  refine bi_cg (fun z2 ω2 => ?_)
  refine Eq.trans (rr_icmp_eq rfl rfl) (it_cg (fun _ => ?_) (fun _ => ?_))
  · rfl
  · refine Eq.trans (rr_iconst rfl rfl) ?_
    exact rr_ireturn rfl rfl
theorem pL_law_1193 (l1 l2 l3 : Int) (ω : am_W) (h4 : am_is ω l1 (6, 10) = true) : am_run (240, 0) 1193 ([some (.inr (.inr ((-2)))), some (.inr (.inr l1)), some (.inr (.inr l2)), some (.inl l3)], [], ω) = if (decide (0 ≤ (am_w (l3 + 1))) && decide ((am_w (l3 + 1)) < (ω.2.2.1 : Int))) = true then (if (decide (0 ≤ (am_w (l3 + 2))) && decide ((am_w (l3 + 2)) < (ω.2.2.1 : Int))) = true then (if (decide (0 ≤ (am_w (l3 + 3))) && decide ((am_w (l3 + 3)) < (ω.2.2.1 : Int))) = true then (am_bi (am_run (110, 0) 0 ([some (.inr (.inr l1)), some (.inl (ω.2.2.2 (am_w (l3 + 1)).toNat)), some (.inl (ω.2.2.2 (am_w (l3 + 2)).toNat)), some (.inl (ω.2.2.2 (am_w (l3 + 3)).toNat))], [], ω)) (fun z1 ω1 => if (decide (0 ≤ (am_w (l3 + 1))) && decide ((am_w (l3 + 1)) < (ω1.2.2.1 : Int))) = true then (if (decide (0 ≤ (am_w (l3 + 2))) && decide ((am_w (l3 + 2)) < (ω1.2.2.1 : Int))) = true then (if (decide (0 ≤ (am_w (l3 + 3))) && decide ((am_w (l3 + 3)) < (ω1.2.2.1 : Int))) = true then (if am_is ω1 l2 (7, 30) = true then (am_bi (am_run (211, 0) 0 ([some (.inr (.inr l2)), some (.inl (ω1.2.2.2 (am_w (l3 + 1)).toNat)), some (.inl (ω1.2.2.2 (am_w (l3 + 2)).toNat)), some (.inl (ω1.2.2.2 (am_w (l3 + 3)).toNat)), none, none, none, none, none, none, none, none, none], [], ω1)) (fun z2 ω2 => if z1 = z2 then (am_run (240, 0) 1708 ([some (.inr (.inr ((-2)))), some (.inr (.inr l1)), some (.inr (.inr l2)), some (.inl l3)], [], ω2)) else (some (some (.inl 0), ω2)))) else none) else none) else none) else none)) else none) else none) else none := by
  refine Eq.trans (rr_aload_n rfl rfl) ?_
  refine Eq.trans (rr_aload_n rfl rfl) ?_
  refine Eq.trans (rr_iload_n rfl rfl) ?_
  refine Eq.trans (rr_iconst rfl rfl) ?_
  refine Eq.trans (rr_iadd rfl) ?_
  refine ck_it (fun h => rr_scrload rfl rfl h) (fun h => rr_scrload_no rfl rfl h) (fun h1 => ?_)
  refine Eq.trans (rr_aload_n rfl rfl) ?_
  refine Eq.trans (rr_iload_n rfl rfl) ?_
  refine Eq.trans (rr_iconst rfl rfl) ?_
  refine Eq.trans (rr_iadd rfl) ?_
  refine ck_it (fun h => rr_scrload rfl rfl h) (fun h => rr_scrload_no rfl rfl h) (fun h2 => ?_)
  refine Eq.trans (rr_aload_n rfl rfl) ?_
  refine Eq.trans (rr_iload_n rfl rfl) ?_
  refine Eq.trans (rr_iconst rfl rfl) ?_
  refine Eq.trans (rr_iadd rfl) ?_
  refine ck_it (fun h => rr_scrload rfl rfl h) (fun h => rr_scrload_no rfl rfl h) (fun h3 => ?_)
  refine Eq.trans (rr_invV0i (S' := []) (L' := [some (.inr (.inr l1)), some (.inl (ω.2.2.2 (am_w (l3 + 1)).toNat)), some (.inl (ω.2.2.2 (am_w (l3 + 2)).toNat)), some (.inl (ω.2.2.2 (am_w (l3 + 3)).toNat))]) (m' := (110, 0)) rfl rfl rfl rfl rfl rfl h4) ?_
  refine bi_cg (fun z1 ω1 => ?_)
  refine Eq.trans (rr_aload_n rfl rfl) ?_
  refine Eq.trans (rr_aload_n rfl rfl) ?_
  refine Eq.trans (rr_iload_n rfl rfl) ?_
  refine Eq.trans (rr_iconst rfl rfl) ?_
  refine Eq.trans (rr_iadd rfl) ?_
  refine ck_it (fun h => rr_scrload rfl rfl h) (fun h => rr_scrload_no rfl rfl h) (fun h5 => ?_)
  refine Eq.trans (rr_aload_n rfl rfl) ?_
  refine Eq.trans (rr_iload_n rfl rfl) ?_
  refine Eq.trans (rr_iconst rfl rfl) ?_
  refine Eq.trans (rr_iadd rfl) ?_
  refine ck_it (fun h => rr_scrload rfl rfl h) (fun h => rr_scrload_no rfl rfl h) (fun h6 => ?_)
  refine Eq.trans (rr_aload_n rfl rfl) ?_
  refine Eq.trans (rr_iload_n rfl rfl) ?_
  refine Eq.trans (rr_iconst rfl rfl) ?_
  refine Eq.trans (rr_iadd rfl) ?_
  refine ck_it (fun h => rr_scrload rfl rfl h) (fun h => rr_scrload_no rfl rfl h) (fun h7 => ?_)
  refine ck_it (fun h => rr_invV0i (S' := [.inl z1]) (L' := [some (.inr (.inr l2)), some (.inl (ω1.2.2.2 (am_w (l3 + 1)).toNat)), some (.inl (ω1.2.2.2 (am_w (l3 + 2)).toNat)), some (.inl (ω1.2.2.2 (am_w (l3 + 3)).toNat)), none, none, none, none, none, none, none, none, none]) (m' := (211, 0)) rfl rfl rfl rfl rfl rfl h) (fun h => rr_invV0_no (S' := [.inl z1]) (L' := [some (.inr (.inr l2)), some (.inl (ω1.2.2.2 (am_w (l3 + 1)).toNat)), some (.inl (ω1.2.2.2 (am_w (l3 + 2)).toNat)), some (.inl (ω1.2.2.2 (am_w (l3 + 3)).toNat)), none, none, none, none, none, none, none, none, none]) (m' := (211, 0)) rfl rfl rfl rfl rfl rfl h) (fun h8 => ?_)
  refine bi_cg (fun z2 ω2 => ?_)
  refine Eq.trans (rr_icmp_eq rfl rfl) (it_cg (fun _ => ?_) (fun _ => ?_))
  · rfl
  · refine Eq.trans (rr_iconst rfl rfl) ?_
    exact rr_ireturn rfl rfl
theorem pL_law_1236 (l1 l2 l3 : Int) (ω : am_W) (h3 : am_is ω l1 (6, 10) = true) : am_run (240, 0) 1236 ([some (.inr (.inr ((-2)))), some (.inr (.inr l1)), some (.inr (.inr l2)), some (.inl l3)], [], ω) = if (decide (0 ≤ (am_w (l3 + 1))) && decide ((am_w (l3 + 1)) < (ω.2.2.1 : Int))) = true then (if (decide (0 ≤ (am_w (l3 + 2))) && decide ((am_w (l3 + 2)) < (ω.2.2.1 : Int))) = true then (am_bi (am_run (111, 0) 0 ([some (.inr (.inr l1)), some (.inl (ω.2.2.2 (am_w (l3 + 1)).toNat)), some (.inl (ω.2.2.2 (am_w (l3 + 2)).toNat)), none, none, none, none], [], ω)) (fun z1 ω1 => if (decide (0 ≤ (am_w (l3 + 1))) && decide ((am_w (l3 + 1)) < (ω1.2.2.1 : Int))) = true then (if (decide (0 ≤ (am_w (l3 + 2))) && decide ((am_w (l3 + 2)) < (ω1.2.2.1 : Int))) = true then (if am_is ω1 l2 (7, 30) = true then (am_bi (am_run (212, 0) 0 ([some (.inr (.inr l2)), some (.inl (ω1.2.2.2 (am_w (l3 + 1)).toNat)), some (.inl (ω1.2.2.2 (am_w (l3 + 2)).toNat)), none, none, none], [], ω1)) (fun z2 ω2 => if z1 = z2 then (am_run (240, 0) 1708 ([some (.inr (.inr ((-2)))), some (.inr (.inr l1)), some (.inr (.inr l2)), some (.inl l3)], [], ω2)) else (some (some (.inl 0), ω2)))) else none) else none) else none)) else none) else none := by
  refine Eq.trans (rr_aload_n rfl rfl) ?_
  refine Eq.trans (rr_aload_n rfl rfl) ?_
  refine Eq.trans (rr_iload_n rfl rfl) ?_
  refine Eq.trans (rr_iconst rfl rfl) ?_
  refine Eq.trans (rr_iadd rfl) ?_
  refine ck_it (fun h => rr_scrload rfl rfl h) (fun h => rr_scrload_no rfl rfl h) (fun h1 => ?_)
  refine Eq.trans (rr_aload_n rfl rfl) ?_
  refine Eq.trans (rr_iload_n rfl rfl) ?_
  refine Eq.trans (rr_iconst rfl rfl) ?_
  refine Eq.trans (rr_iadd rfl) ?_
  refine ck_it (fun h => rr_scrload rfl rfl h) (fun h => rr_scrload_no rfl rfl h) (fun h2 => ?_)
  refine Eq.trans (rr_invV0i (S' := []) (L' := [some (.inr (.inr l1)), some (.inl (ω.2.2.2 (am_w (l3 + 1)).toNat)), some (.inl (ω.2.2.2 (am_w (l3 + 2)).toNat)), none, none, none, none]) (m' := (111, 0)) rfl rfl rfl rfl rfl rfl h3) ?_
  refine bi_cg (fun z1 ω1 => ?_)
  refine Eq.trans (rr_aload_n rfl rfl) ?_
  refine Eq.trans (rr_aload_n rfl rfl) ?_
  refine Eq.trans (rr_iload_n rfl rfl) ?_
  refine Eq.trans (rr_iconst rfl rfl) ?_
  refine Eq.trans (rr_iadd rfl) ?_
  refine ck_it (fun h => rr_scrload rfl rfl h) (fun h => rr_scrload_no rfl rfl h) (fun h4 => ?_)
  refine Eq.trans (rr_aload_n rfl rfl) ?_
  refine Eq.trans (rr_iload_n rfl rfl) ?_
  refine Eq.trans (rr_iconst rfl rfl) ?_
  refine Eq.trans (rr_iadd rfl) ?_
  refine ck_it (fun h => rr_scrload rfl rfl h) (fun h => rr_scrload_no rfl rfl h) (fun h5 => ?_)
  refine ck_it (fun h => rr_invV0i (S' := [.inl z1]) (L' := [some (.inr (.inr l2)), some (.inl (ω1.2.2.2 (am_w (l3 + 1)).toNat)), some (.inl (ω1.2.2.2 (am_w (l3 + 2)).toNat)), none, none, none]) (m' := (212, 0)) rfl rfl rfl rfl rfl rfl h) (fun h => rr_invV0_no (S' := [.inl z1]) (L' := [some (.inr (.inr l2)), some (.inl (ω1.2.2.2 (am_w (l3 + 1)).toNat)), some (.inl (ω1.2.2.2 (am_w (l3 + 2)).toNat)), none, none, none]) (m' := (212, 0)) rfl rfl rfl rfl rfl rfl h) (fun h6 => ?_)
  refine bi_cg (fun z2 ω2 => ?_)
  refine Eq.trans (rr_icmp_eq rfl rfl) (it_cg (fun _ => ?_) (fun _ => ?_))
  · rfl
  · refine Eq.trans (rr_iconst rfl rfl) ?_
    exact rr_ireturn rfl rfl
theorem pL_law_1269 (l1 l2 l3 : Int) (ω : am_W) (h1 : am_is ω l1 (6, 10) = true) : am_run (240, 0) 1269 ([some (.inr (.inr ((-2)))), some (.inr (.inr l1)), some (.inr (.inr l2)), some (.inl l3)], [], ω) = am_bl (am_run (112, 0) 0 ([some (.inr (.inr l1)), none, none, none, none], [], ω)) (fun z1 ω1 => if am_is ω1 l2 (7, 30) = true then (am_bl (am_run (213, 0) 0 ([some (.inr (.inr l2)), none, none, none, none, none, none, none, none, none], [], ω1)) (fun z2 ω2 => if (am_cmp z1 z2) = 0 then (am_run (240, 0) 1708 ([some (.inr (.inr ((-2)))), some (.inr (.inr l1)), some (.inr (.inr l2)), some (.inl l3)], [], ω2)) else (some (some (.inl 0), ω2)))) else none) := by
  refine Eq.trans (rr_aload_n rfl rfl) ?_
  refine Eq.trans (rr_invV0l (S' := []) (L' := [some (.inr (.inr l1)), none, none, none, none]) (m' := (112, 0)) rfl rfl rfl rfl rfl rfl h1) ?_
  refine bl_cg (fun z1 ω1 => ?_)
  refine Eq.trans (rr_aload_n rfl rfl) ?_
  refine ck_it (fun h => rr_invV0l (S' := [.inr (.inl z1)]) (L' := [some (.inr (.inr l2)), none, none, none, none, none, none, none, none, none]) (m' := (213, 0)) rfl rfl rfl rfl rfl rfl h) (fun h => rr_invV0_no (S' := [.inr (.inl z1)]) (L' := [some (.inr (.inr l2)), none, none, none, none, none, none, none, none, none]) (m' := (213, 0)) rfl rfl rfl rfl rfl rfl h) (fun h2 => ?_)
  refine bl_cg (fun z2 ω2 => ?_)
  refine Eq.trans (rr_lcmp rfl) ?_
  refine Eq.trans (rr_if_eq rfl rfl) (it_cg (fun _ => ?_) (fun _ => ?_))
  · rfl
  · refine Eq.trans (rr_iconst rfl rfl) ?_
    exact rr_ireturn rfl rfl
theorem pL_law_1283 (l1 l2 l3 : Int) (ω : am_W) (h3 : am_is ω l1 (6, 10) = true) : am_run (240, 0) 1283 ([some (.inr (.inr ((-2)))), some (.inr (.inr l1)), some (.inr (.inr l2)), some (.inl l3)], [], ω) = if (decide (0 ≤ (am_w (l3 + 1))) && decide ((am_w (l3 + 1)) < (ω.2.2.1 : Int))) = true then (if (decide (0 ≤ (am_w (l3 + 2))) && decide ((am_w (l3 + 2)) < (ω.2.2.1 : Int))) = true then (am_bi (am_run (113, 0) 0 ([some (.inr (.inr l1)), some (.inl (ω.2.2.2 (am_w (l3 + 1)).toNat)), some (.inl (ω.2.2.2 (am_w (l3 + 2)).toNat)), none, none, none, none, none], [], ω)) (fun z1 ω1 => if (decide (0 ≤ (am_w (l3 + 1))) && decide ((am_w (l3 + 1)) < (ω1.2.2.1 : Int))) = true then (if (decide (0 ≤ (am_w (l3 + 2))) && decide ((am_w (l3 + 2)) < (ω1.2.2.1 : Int))) = true then (if am_is ω1 l2 (7, 30) = true then (am_bi (am_run (214, 0) 0 ([some (.inr (.inr l2)), some (.inl (ω1.2.2.2 (am_w (l3 + 1)).toNat)), some (.inl (ω1.2.2.2 (am_w (l3 + 2)).toNat)), none, none, none, none, none], [], ω1)) (fun z2 ω2 => if z1 = z2 then (am_run (240, 0) 1708 ([some (.inr (.inr ((-2)))), some (.inr (.inr l1)), some (.inr (.inr l2)), some (.inl l3)], [], ω2)) else (some (some (.inl 0), ω2)))) else none) else none) else none)) else none) else none := by
  refine Eq.trans (rr_aload_n rfl rfl) ?_
  refine Eq.trans (rr_aload_n rfl rfl) ?_
  refine Eq.trans (rr_iload_n rfl rfl) ?_
  refine Eq.trans (rr_iconst rfl rfl) ?_
  refine Eq.trans (rr_iadd rfl) ?_
  refine ck_it (fun h => rr_scrload rfl rfl h) (fun h => rr_scrload_no rfl rfl h) (fun h1 => ?_)
  refine Eq.trans (rr_aload_n rfl rfl) ?_
  refine Eq.trans (rr_iload_n rfl rfl) ?_
  refine Eq.trans (rr_iconst rfl rfl) ?_
  refine Eq.trans (rr_iadd rfl) ?_
  refine ck_it (fun h => rr_scrload rfl rfl h) (fun h => rr_scrload_no rfl rfl h) (fun h2 => ?_)
  refine Eq.trans (rr_invV0i (S' := []) (L' := [some (.inr (.inr l1)), some (.inl (ω.2.2.2 (am_w (l3 + 1)).toNat)), some (.inl (ω.2.2.2 (am_w (l3 + 2)).toNat)), none, none, none, none, none]) (m' := (113, 0)) rfl rfl rfl rfl rfl rfl h3) ?_
  refine bi_cg (fun z1 ω1 => ?_)
  refine Eq.trans (rr_aload_n rfl rfl) ?_
  refine Eq.trans (rr_aload_n rfl rfl) ?_
  refine Eq.trans (rr_iload_n rfl rfl) ?_
  refine Eq.trans (rr_iconst rfl rfl) ?_
  refine Eq.trans (rr_iadd rfl) ?_
  refine ck_it (fun h => rr_scrload rfl rfl h) (fun h => rr_scrload_no rfl rfl h) (fun h4 => ?_)
  refine Eq.trans (rr_aload_n rfl rfl) ?_
  refine Eq.trans (rr_iload_n rfl rfl) ?_
  refine Eq.trans (rr_iconst rfl rfl) ?_
  refine Eq.trans (rr_iadd rfl) ?_
  refine ck_it (fun h => rr_scrload rfl rfl h) (fun h => rr_scrload_no rfl rfl h) (fun h5 => ?_)
  refine ck_it (fun h => rr_invV0i (S' := [.inl z1]) (L' := [some (.inr (.inr l2)), some (.inl (ω1.2.2.2 (am_w (l3 + 1)).toNat)), some (.inl (ω1.2.2.2 (am_w (l3 + 2)).toNat)), none, none, none, none, none]) (m' := (214, 0)) rfl rfl rfl rfl rfl rfl h) (fun h => rr_invV0_no (S' := [.inl z1]) (L' := [some (.inr (.inr l2)), some (.inl (ω1.2.2.2 (am_w (l3 + 1)).toNat)), some (.inl (ω1.2.2.2 (am_w (l3 + 2)).toNat)), none, none, none, none, none]) (m' := (214, 0)) rfl rfl rfl rfl rfl rfl h) (fun h6 => ?_)
  refine bi_cg (fun z2 ω2 => ?_)
  refine Eq.trans (rr_icmp_eq rfl rfl) (it_cg (fun _ => ?_) (fun _ => ?_))
  · rfl
  · refine Eq.trans (rr_iconst rfl rfl) ?_
    exact rr_ireturn rfl rfl
theorem pL_law_1316 (l1 l2 l3 : Int) (ω : am_W) (h3 : am_is ω l1 (6, 10) = true) : am_run (240, 0) 1316 ([some (.inr (.inr ((-2)))), some (.inr (.inr l1)), some (.inr (.inr l2)), some (.inl l3)], [], ω) = if (decide (0 ≤ (am_w (l3 + 1))) && decide ((am_w (l3 + 1)) < (ω.2.2.1 : Int))) = true then (if (decide (0 ≤ (am_w (l3 + 2))) && decide ((am_w (l3 + 2)) < (ω.2.2.1 : Int))) = true then (am_bi (am_run (114, 0) 0 ([some (.inr (.inr l1)), some (.inl (ω.2.2.2 (am_w (l3 + 1)).toNat)), some (.inl (ω.2.2.2 (am_w (l3 + 2)).toNat))], [], ω)) (fun z1 ω1 => if (decide (0 ≤ (am_w (l3 + 1))) && decide ((am_w (l3 + 1)) < (ω1.2.2.1 : Int))) = true then (if (decide (0 ≤ (am_w (l3 + 2))) && decide ((am_w (l3 + 2)) < (ω1.2.2.1 : Int))) = true then (if am_is ω1 l2 (7, 30) = true then (am_bi (am_run (215, 0) 0 ([some (.inr (.inr l2)), some (.inl (ω1.2.2.2 (am_w (l3 + 1)).toNat)), some (.inl (ω1.2.2.2 (am_w (l3 + 2)).toNat)), none, none, none], [], ω1)) (fun z2 ω2 => if z1 = z2 then (am_run (240, 0) 1708 ([some (.inr (.inr ((-2)))), some (.inr (.inr l1)), some (.inr (.inr l2)), some (.inl l3)], [], ω2)) else (some (some (.inl 0), ω2)))) else none) else none) else none)) else none) else none := by
  refine Eq.trans (rr_aload_n rfl rfl) ?_
  refine Eq.trans (rr_aload_n rfl rfl) ?_
  refine Eq.trans (rr_iload_n rfl rfl) ?_
  refine Eq.trans (rr_iconst rfl rfl) ?_
  refine Eq.trans (rr_iadd rfl) ?_
  refine ck_it (fun h => rr_scrload rfl rfl h) (fun h => rr_scrload_no rfl rfl h) (fun h1 => ?_)
  refine Eq.trans (rr_aload_n rfl rfl) ?_
  refine Eq.trans (rr_iload_n rfl rfl) ?_
  refine Eq.trans (rr_iconst rfl rfl) ?_
  refine Eq.trans (rr_iadd rfl) ?_
  refine ck_it (fun h => rr_scrload rfl rfl h) (fun h => rr_scrload_no rfl rfl h) (fun h2 => ?_)
  refine Eq.trans (rr_invV0i (S' := []) (L' := [some (.inr (.inr l1)), some (.inl (ω.2.2.2 (am_w (l3 + 1)).toNat)), some (.inl (ω.2.2.2 (am_w (l3 + 2)).toNat))]) (m' := (114, 0)) rfl rfl rfl rfl rfl rfl h3) ?_
  refine bi_cg (fun z1 ω1 => ?_)
  refine Eq.trans (rr_aload_n rfl rfl) ?_
  refine Eq.trans (rr_aload_n rfl rfl) ?_
  refine Eq.trans (rr_iload_n rfl rfl) ?_
  refine Eq.trans (rr_iconst rfl rfl) ?_
  refine Eq.trans (rr_iadd rfl) ?_
  refine ck_it (fun h => rr_scrload rfl rfl h) (fun h => rr_scrload_no rfl rfl h) (fun h4 => ?_)
  refine Eq.trans (rr_aload_n rfl rfl) ?_
  refine Eq.trans (rr_iload_n rfl rfl) ?_
  refine Eq.trans (rr_iconst rfl rfl) ?_
  refine Eq.trans (rr_iadd rfl) ?_
  refine ck_it (fun h => rr_scrload rfl rfl h) (fun h => rr_scrload_no rfl rfl h) (fun h5 => ?_)
  refine ck_it (fun h => rr_invV0i (S' := [.inl z1]) (L' := [some (.inr (.inr l2)), some (.inl (ω1.2.2.2 (am_w (l3 + 1)).toNat)), some (.inl (ω1.2.2.2 (am_w (l3 + 2)).toNat)), none, none, none]) (m' := (215, 0)) rfl rfl rfl rfl rfl rfl h) (fun h => rr_invV0_no (S' := [.inl z1]) (L' := [some (.inr (.inr l2)), some (.inl (ω1.2.2.2 (am_w (l3 + 1)).toNat)), some (.inl (ω1.2.2.2 (am_w (l3 + 2)).toNat)), none, none, none]) (m' := (215, 0)) rfl rfl rfl rfl rfl rfl h) (fun h6 => ?_)
  refine bi_cg (fun z2 ω2 => ?_)
  refine Eq.trans (rr_icmp_eq rfl rfl) (it_cg (fun _ => ?_) (fun _ => ?_))
  · rfl
  · refine Eq.trans (rr_iconst rfl rfl) ?_
    exact rr_ireturn rfl rfl
theorem pL_law_1349 (l1 l2 l3 : Int) (ω : am_W) (h1 : am_is ω l1 (6, 10) = true) : am_run (240, 0) 1349 ([some (.inr (.inr ((-2)))), some (.inr (.inr l1)), some (.inr (.inr l2)), some (.inl l3)], [], ω) = am_bi (am_run (115, 0) 0 ([some (.inr (.inr l1)), none, none], [], ω)) (fun z1 ω1 => if am_is ω1 l2 (7, 30) = true then (am_bi (am_run (216, 0) 0 ([some (.inr (.inr l2)), none, none], [], ω1)) (fun z2 ω2 => if z1 = z2 then (am_run (240, 0) 1708 ([some (.inr (.inr ((-2)))), some (.inr (.inr l1)), some (.inr (.inr l2)), some (.inl l3)], [], ω2)) else (some (some (.inl 0), ω2)))) else none) := by
  refine Eq.trans (rr_aload_n rfl rfl) ?_
  refine Eq.trans (rr_invV0i (S' := []) (L' := [some (.inr (.inr l1)), none, none]) (m' := (115, 0)) rfl rfl rfl rfl rfl rfl h1) ?_
  refine bi_cg (fun z1 ω1 => ?_)
  refine Eq.trans (rr_aload_n rfl rfl) ?_
  refine ck_it (fun h => rr_invV0i (S' := [.inl z1]) (L' := [some (.inr (.inr l2)), none, none]) (m' := (216, 0)) rfl rfl rfl rfl rfl rfl h) (fun h => rr_invV0_no (S' := [.inl z1]) (L' := [some (.inr (.inr l2)), none, none]) (m' := (216, 0)) rfl rfl rfl rfl rfl rfl h) (fun h2 => ?_)
  refine bi_cg (fun z2 ω2 => ?_)
  refine Eq.trans (rr_icmp_eq rfl rfl) (it_cg (fun _ => ?_) (fun _ => ?_))
  · rfl
  · refine Eq.trans (rr_iconst rfl rfl) ?_
    exact rr_ireturn rfl rfl
theorem pL_law_1362 (l1 l2 l3 : Int) (ω : am_W) (h2 : am_is ω l1 (6, 10) = true) : am_run (240, 0) 1362 ([some (.inr (.inr ((-2)))), some (.inr (.inr l1)), some (.inr (.inr l2)), some (.inl l3)], [], ω) = if (decide (0 ≤ (am_w (l3 + 1))) && decide ((am_w (l3 + 1)) < (ω.2.2.1 : Int))) = true then (am_bi (am_run (116, 0) 0 ([some (.inr (.inr l1)), some (.inl (ω.2.2.2 (am_w (l3 + 1)).toNat)), none], [], ω)) (fun z1 ω1 => if (decide (0 ≤ (am_w (l3 + 1))) && decide ((am_w (l3 + 1)) < (ω1.2.2.1 : Int))) = true then (if am_is ω1 l2 (7, 30) = true then (am_bi (am_run (217, 0) 0 ([some (.inr (.inr l2)), some (.inl (ω1.2.2.2 (am_w (l3 + 1)).toNat)), none, none, none], [], ω1)) (fun z2 ω2 => if z1 = z2 then (am_run (240, 0) 1708 ([some (.inr (.inr ((-2)))), some (.inr (.inr l1)), some (.inr (.inr l2)), some (.inl l3)], [], ω2)) else (some (some (.inl 0), ω2)))) else none) else none)) else none := by
  refine Eq.trans (rr_aload_n rfl rfl) ?_
  refine Eq.trans (rr_aload_n rfl rfl) ?_
  refine Eq.trans (rr_iload_n rfl rfl) ?_
  refine Eq.trans (rr_iconst rfl rfl) ?_
  refine Eq.trans (rr_iadd rfl) ?_
  refine ck_it (fun h => rr_scrload rfl rfl h) (fun h => rr_scrload_no rfl rfl h) (fun h1 => ?_)
  refine Eq.trans (rr_invV0i (S' := []) (L' := [some (.inr (.inr l1)), some (.inl (ω.2.2.2 (am_w (l3 + 1)).toNat)), none]) (m' := (116, 0)) rfl rfl rfl rfl rfl rfl h2) ?_
  refine bi_cg (fun z1 ω1 => ?_)
  refine Eq.trans (rr_aload_n rfl rfl) ?_
  refine Eq.trans (rr_aload_n rfl rfl) ?_
  refine Eq.trans (rr_iload_n rfl rfl) ?_
  refine Eq.trans (rr_iconst rfl rfl) ?_
  refine Eq.trans (rr_iadd rfl) ?_
  refine ck_it (fun h => rr_scrload rfl rfl h) (fun h => rr_scrload_no rfl rfl h) (fun h3 => ?_)
  refine ck_it (fun h => rr_invV0i (S' := [.inl z1]) (L' := [some (.inr (.inr l2)), some (.inl (ω1.2.2.2 (am_w (l3 + 1)).toNat)), none, none, none]) (m' := (217, 0)) rfl rfl rfl rfl rfl rfl h) (fun h => rr_invV0_no (S' := [.inl z1]) (L' := [some (.inr (.inr l2)), some (.inl (ω1.2.2.2 (am_w (l3 + 1)).toNat)), none, none, none]) (m' := (217, 0)) rfl rfl rfl rfl rfl rfl h) (fun h4 => ?_)
  refine bi_cg (fun z2 ω2 => ?_)
  refine Eq.trans (rr_icmp_eq rfl rfl) (it_cg (fun _ => ?_) (fun _ => ?_))
  · rfl
  · refine Eq.trans (rr_iconst rfl rfl) ?_
    exact rr_ireturn rfl rfl
theorem pL_law_1385 (l1 l2 l3 : Int) (ω : am_W) (h4 : am_is ω l1 (6, 10) = true) : am_run (240, 0) 1385 ([some (.inr (.inr ((-2)))), some (.inr (.inr l1)), some (.inr (.inr l2)), some (.inl l3)], [], ω) = if (decide (0 ≤ (am_w (l3 + 1))) && decide ((am_w (l3 + 1)) < (ω.2.2.1 : Int))) = true then (if (decide (0 ≤ (am_w (l3 + 2))) && decide ((am_w (l3 + 2)) < (ω.2.2.1 : Int))) = true then (if (decide (0 ≤ (am_w (l3 + 3))) && decide ((am_w (l3 + 3)) < (ω.2.2.1 : Int))) = true then (am_bi (am_run (117, 0) 0 ([some (.inr (.inr l1)), some (.inl (ω.2.2.2 (am_w (l3 + 1)).toNat)), some (.inl (ω.2.2.2 (am_w (l3 + 2)).toNat)), some (.inl (ω.2.2.2 (am_w (l3 + 3)).toNat)), none, none], [], ω)) (fun z1 ω1 => if (decide (0 ≤ (am_w (l3 + 1))) && decide ((am_w (l3 + 1)) < (ω1.2.2.1 : Int))) = true then (if (decide (0 ≤ (am_w (l3 + 2))) && decide ((am_w (l3 + 2)) < (ω1.2.2.1 : Int))) = true then (if (decide (0 ≤ (am_w (l3 + 3))) && decide ((am_w (l3 + 3)) < (ω1.2.2.1 : Int))) = true then (if am_is ω1 l2 (7, 30) = true then (am_bi (am_run (218, 0) 0 ([some (.inr (.inr l2)), some (.inl (ω1.2.2.2 (am_w (l3 + 1)).toNat)), some (.inl (ω1.2.2.2 (am_w (l3 + 2)).toNat)), some (.inl (ω1.2.2.2 (am_w (l3 + 3)).toNat)), none, none, none, none, none, none, none, none], [], ω1)) (fun z2 ω2 => if z1 = z2 then (am_run (240, 0) 1708 ([some (.inr (.inr ((-2)))), some (.inr (.inr l1)), some (.inr (.inr l2)), some (.inl l3)], [], ω2)) else (some (some (.inl 0), ω2)))) else none) else none) else none) else none)) else none) else none) else none := by
  refine Eq.trans (rr_aload_n rfl rfl) ?_
  refine Eq.trans (rr_aload_n rfl rfl) ?_
  refine Eq.trans (rr_iload_n rfl rfl) ?_
  refine Eq.trans (rr_iconst rfl rfl) ?_
  refine Eq.trans (rr_iadd rfl) ?_
  refine ck_it (fun h => rr_scrload rfl rfl h) (fun h => rr_scrload_no rfl rfl h) (fun h1 => ?_)
  refine Eq.trans (rr_aload_n rfl rfl) ?_
  refine Eq.trans (rr_iload_n rfl rfl) ?_
  refine Eq.trans (rr_iconst rfl rfl) ?_
  refine Eq.trans (rr_iadd rfl) ?_
  refine ck_it (fun h => rr_scrload rfl rfl h) (fun h => rr_scrload_no rfl rfl h) (fun h2 => ?_)
  refine Eq.trans (rr_aload_n rfl rfl) ?_
  refine Eq.trans (rr_iload_n rfl rfl) ?_
  refine Eq.trans (rr_iconst rfl rfl) ?_
  refine Eq.trans (rr_iadd rfl) ?_
  refine ck_it (fun h => rr_scrload rfl rfl h) (fun h => rr_scrload_no rfl rfl h) (fun h3 => ?_)
  refine Eq.trans (rr_invV0i (S' := []) (L' := [some (.inr (.inr l1)), some (.inl (ω.2.2.2 (am_w (l3 + 1)).toNat)), some (.inl (ω.2.2.2 (am_w (l3 + 2)).toNat)), some (.inl (ω.2.2.2 (am_w (l3 + 3)).toNat)), none, none]) (m' := (117, 0)) rfl rfl rfl rfl rfl rfl h4) ?_
  refine bi_cg (fun z1 ω1 => ?_)
  refine Eq.trans (rr_aload_n rfl rfl) ?_
  refine Eq.trans (rr_aload_n rfl rfl) ?_
  refine Eq.trans (rr_iload_n rfl rfl) ?_
  refine Eq.trans (rr_iconst rfl rfl) ?_
  refine Eq.trans (rr_iadd rfl) ?_
  refine ck_it (fun h => rr_scrload rfl rfl h) (fun h => rr_scrload_no rfl rfl h) (fun h5 => ?_)
  refine Eq.trans (rr_aload_n rfl rfl) ?_
  refine Eq.trans (rr_iload_n rfl rfl) ?_
  refine Eq.trans (rr_iconst rfl rfl) ?_
  refine Eq.trans (rr_iadd rfl) ?_
  refine ck_it (fun h => rr_scrload rfl rfl h) (fun h => rr_scrload_no rfl rfl h) (fun h6 => ?_)
  refine Eq.trans (rr_aload_n rfl rfl) ?_
  refine Eq.trans (rr_iload_n rfl rfl) ?_
  refine Eq.trans (rr_iconst rfl rfl) ?_
  refine Eq.trans (rr_iadd rfl) ?_
  refine ck_it (fun h => rr_scrload rfl rfl h) (fun h => rr_scrload_no rfl rfl h) (fun h7 => ?_)
  refine ck_it (fun h => rr_invV0i (S' := [.inl z1]) (L' := [some (.inr (.inr l2)), some (.inl (ω1.2.2.2 (am_w (l3 + 1)).toNat)), some (.inl (ω1.2.2.2 (am_w (l3 + 2)).toNat)), some (.inl (ω1.2.2.2 (am_w (l3 + 3)).toNat)), none, none, none, none, none, none, none, none]) (m' := (218, 0)) rfl rfl rfl rfl rfl rfl h) (fun h => rr_invV0_no (S' := [.inl z1]) (L' := [some (.inr (.inr l2)), some (.inl (ω1.2.2.2 (am_w (l3 + 1)).toNat)), some (.inl (ω1.2.2.2 (am_w (l3 + 2)).toNat)), some (.inl (ω1.2.2.2 (am_w (l3 + 3)).toNat)), none, none, none, none, none, none, none, none]) (m' := (218, 0)) rfl rfl rfl rfl rfl rfl h) (fun h8 => ?_)
  refine bi_cg (fun z2 ω2 => ?_)
  refine Eq.trans (rr_icmp_eq rfl rfl) (it_cg (fun _ => ?_) (fun _ => ?_))
  · rfl
  · refine Eq.trans (rr_iconst rfl rfl) ?_
    exact rr_ireturn rfl rfl
theorem pL_law_1428 (l1 l2 l3 : Int) (ω : am_W) (h4 : am_is ω l1 (6, 10) = true) : am_run (240, 0) 1428 ([some (.inr (.inr ((-2)))), some (.inr (.inr l1)), some (.inr (.inr l2)), some (.inl l3)], [], ω) = if (decide (0 ≤ (am_w (l3 + 1))) && decide ((am_w (l3 + 1)) < (ω.2.2.1 : Int))) = true then (if (decide (0 ≤ (am_w (l3 + 2))) && decide ((am_w (l3 + 2)) < (ω.2.2.1 : Int))) = true then (if (decide (0 ≤ (am_w (l3 + 3))) && decide ((am_w (l3 + 3)) < (ω.2.2.1 : Int))) = true then (am_bi (am_run (118, 0) 0 ([some (.inr (.inr l1)), some (.inl (ω.2.2.2 (am_w (l3 + 1)).toNat)), some (.inl (ω.2.2.2 (am_w (l3 + 2)).toNat)), some (.inl (ω.2.2.2 (am_w (l3 + 3)).toNat))], [], ω)) (fun z1 ω1 => if (decide (0 ≤ (am_w (l3 + 1))) && decide ((am_w (l3 + 1)) < (ω1.2.2.1 : Int))) = true then (if (decide (0 ≤ (am_w (l3 + 2))) && decide ((am_w (l3 + 2)) < (ω1.2.2.1 : Int))) = true then (if (decide (0 ≤ (am_w (l3 + 3))) && decide ((am_w (l3 + 3)) < (ω1.2.2.1 : Int))) = true then (if am_is ω1 l2 (7, 30) = true then (am_bi (am_run (220, 0) 0 ([some (.inr (.inr l2)), some (.inl (ω1.2.2.2 (am_w (l3 + 1)).toNat)), some (.inl (ω1.2.2.2 (am_w (l3 + 2)).toNat)), some (.inl (ω1.2.2.2 (am_w (l3 + 3)).toNat))], [], ω1)) (fun z2 ω2 => if z1 = z2 then (am_run (240, 0) 1708 ([some (.inr (.inr ((-2)))), some (.inr (.inr l1)), some (.inr (.inr l2)), some (.inl l3)], [], ω2)) else (some (some (.inl 0), ω2)))) else none) else none) else none) else none)) else none) else none) else none := by
  refine Eq.trans (rr_aload_n rfl rfl) ?_
  refine Eq.trans (rr_aload_n rfl rfl) ?_
  refine Eq.trans (rr_iload_n rfl rfl) ?_
  refine Eq.trans (rr_iconst rfl rfl) ?_
  refine Eq.trans (rr_iadd rfl) ?_
  refine ck_it (fun h => rr_scrload rfl rfl h) (fun h => rr_scrload_no rfl rfl h) (fun h1 => ?_)
  refine Eq.trans (rr_aload_n rfl rfl) ?_
  refine Eq.trans (rr_iload_n rfl rfl) ?_
  refine Eq.trans (rr_iconst rfl rfl) ?_
  refine Eq.trans (rr_iadd rfl) ?_
  refine ck_it (fun h => rr_scrload rfl rfl h) (fun h => rr_scrload_no rfl rfl h) (fun h2 => ?_)
  refine Eq.trans (rr_aload_n rfl rfl) ?_
  refine Eq.trans (rr_iload_n rfl rfl) ?_
  refine Eq.trans (rr_iconst rfl rfl) ?_
  refine Eq.trans (rr_iadd rfl) ?_
  refine ck_it (fun h => rr_scrload rfl rfl h) (fun h => rr_scrload_no rfl rfl h) (fun h3 => ?_)
  refine Eq.trans (rr_invV0i (S' := []) (L' := [some (.inr (.inr l1)), some (.inl (ω.2.2.2 (am_w (l3 + 1)).toNat)), some (.inl (ω.2.2.2 (am_w (l3 + 2)).toNat)), some (.inl (ω.2.2.2 (am_w (l3 + 3)).toNat))]) (m' := (118, 0)) rfl rfl rfl rfl rfl rfl h4) ?_
  refine bi_cg (fun z1 ω1 => ?_)
  refine Eq.trans (rr_aload_n rfl rfl) ?_
  refine Eq.trans (rr_aload_n rfl rfl) ?_
  refine Eq.trans (rr_iload_n rfl rfl) ?_
  refine Eq.trans (rr_iconst rfl rfl) ?_
  refine Eq.trans (rr_iadd rfl) ?_
  refine ck_it (fun h => rr_scrload rfl rfl h) (fun h => rr_scrload_no rfl rfl h) (fun h5 => ?_)
  refine Eq.trans (rr_aload_n rfl rfl) ?_
  refine Eq.trans (rr_iload_n rfl rfl) ?_
  refine Eq.trans (rr_iconst rfl rfl) ?_
  refine Eq.trans (rr_iadd rfl) ?_
  refine ck_it (fun h => rr_scrload rfl rfl h) (fun h => rr_scrload_no rfl rfl h) (fun h6 => ?_)
  refine Eq.trans (rr_aload_n rfl rfl) ?_
  refine Eq.trans (rr_iload_n rfl rfl) ?_
  refine Eq.trans (rr_iconst rfl rfl) ?_
  refine Eq.trans (rr_iadd rfl) ?_
  refine ck_it (fun h => rr_scrload rfl rfl h) (fun h => rr_scrload_no rfl rfl h) (fun h7 => ?_)
  refine ck_it (fun h => rr_invV0i (S' := [.inl z1]) (L' := [some (.inr (.inr l2)), some (.inl (ω1.2.2.2 (am_w (l3 + 1)).toNat)), some (.inl (ω1.2.2.2 (am_w (l3 + 2)).toNat)), some (.inl (ω1.2.2.2 (am_w (l3 + 3)).toNat))]) (m' := (220, 0)) rfl rfl rfl rfl rfl rfl h) (fun h => rr_invV0_no (S' := [.inl z1]) (L' := [some (.inr (.inr l2)), some (.inl (ω1.2.2.2 (am_w (l3 + 1)).toNat)), some (.inl (ω1.2.2.2 (am_w (l3 + 2)).toNat)), some (.inl (ω1.2.2.2 (am_w (l3 + 3)).toNat))]) (m' := (220, 0)) rfl rfl rfl rfl rfl rfl h) (fun h8 => ?_)
  refine bi_cg (fun z2 ω2 => ?_)
  refine Eq.trans (rr_icmp_eq rfl rfl) (it_cg (fun _ => ?_) (fun _ => ?_))
  · rfl
  · refine Eq.trans (rr_iconst rfl rfl) ?_
    exact rr_ireturn rfl rfl
theorem pL_law_1471 (l1 l2 l3 : Int) (ω : am_W) (h2 : am_is ω l1 (6, 10) = true) : am_run (240, 0) 1471 ([some (.inr (.inr ((-2)))), some (.inr (.inr l1)), some (.inr (.inr l2)), some (.inl l3)], [], ω) = if (decide (0 ≤ (am_w (l3 + 1))) && decide ((am_w (l3 + 1)) < (ω.2.2.1 : Int))) = true then (am_bi (am_run (119, 0) 0 ([some (.inr (.inr l1)), some (.inl (ω.2.2.2 (am_w (l3 + 1)).toNat))], [], ω)) (fun z1 ω1 => if (decide (0 ≤ (am_w (l3 + 1))) && decide ((am_w (l3 + 1)) < (ω1.2.2.1 : Int))) = true then (if am_is ω1 l2 (7, 30) = true then (am_bi (am_run (222, 0) 0 ([some (.inr (.inr l2)), some (.inl (ω1.2.2.2 (am_w (l3 + 1)).toNat))], [], ω1)) (fun z2 ω2 => if z1 = z2 then (am_run (240, 0) 1708 ([some (.inr (.inr ((-2)))), some (.inr (.inr l1)), some (.inr (.inr l2)), some (.inl l3)], [], ω2)) else (some (some (.inl 0), ω2)))) else none) else none)) else none := by
  refine Eq.trans (rr_aload_n rfl rfl) ?_
  refine Eq.trans (rr_aload_n rfl rfl) ?_
  refine Eq.trans (rr_iload_n rfl rfl) ?_
  refine Eq.trans (rr_iconst rfl rfl) ?_
  refine Eq.trans (rr_iadd rfl) ?_
  refine ck_it (fun h => rr_scrload rfl rfl h) (fun h => rr_scrload_no rfl rfl h) (fun h1 => ?_)
  refine Eq.trans (rr_invV0i (S' := []) (L' := [some (.inr (.inr l1)), some (.inl (ω.2.2.2 (am_w (l3 + 1)).toNat))]) (m' := (119, 0)) rfl rfl rfl rfl rfl rfl h2) ?_
  refine bi_cg (fun z1 ω1 => ?_)
  refine Eq.trans (rr_aload_n rfl rfl) ?_
  refine Eq.trans (rr_aload_n rfl rfl) ?_
  refine Eq.trans (rr_iload_n rfl rfl) ?_
  refine Eq.trans (rr_iconst rfl rfl) ?_
  refine Eq.trans (rr_iadd rfl) ?_
  refine ck_it (fun h => rr_scrload rfl rfl h) (fun h => rr_scrload_no rfl rfl h) (fun h3 => ?_)
  refine ck_it (fun h => rr_invV0i (S' := [.inl z1]) (L' := [some (.inr (.inr l2)), some (.inl (ω1.2.2.2 (am_w (l3 + 1)).toNat))]) (m' := (222, 0)) rfl rfl rfl rfl rfl rfl h) (fun h => rr_invV0_no (S' := [.inl z1]) (L' := [some (.inr (.inr l2)), some (.inl (ω1.2.2.2 (am_w (l3 + 1)).toNat))]) (m' := (222, 0)) rfl rfl rfl rfl rfl rfl h) (fun h4 => ?_)
  refine bi_cg (fun z2 ω2 => ?_)
  refine Eq.trans (rr_icmp_eq rfl rfl) (it_cg (fun _ => ?_) (fun _ => ?_))
  · rfl
  · refine Eq.trans (rr_iconst rfl rfl) ?_
    exact rr_ireturn rfl rfl
theorem pL_law_1494 (l1 l2 l3 : Int) (ω : am_W) (h3 : am_is ω l1 (6, 10) = true) : am_run (240, 0) 1494 ([some (.inr (.inr ((-2)))), some (.inr (.inr l1)), some (.inr (.inr l2)), some (.inl l3)], [], ω) = if (decide (0 ≤ (am_w (l3 + 1))) && decide ((am_w (l3 + 1)) < (ω.2.2.1 : Int))) = true then (if (decide (0 ≤ (am_w (l3 + 2))) && decide ((am_w (l3 + 2)) < (ω.2.2.1 : Int))) = true then (am_bi (am_run (120, 0) 0 ([some (.inr (.inr l1)), some (.inl (ω.2.2.2 (am_w (l3 + 1)).toNat)), some (.inl (ω.2.2.2 (am_w (l3 + 2)).toNat)), none, none], [], ω)) (fun z1 ω1 => if (decide (0 ≤ (am_w (l3 + 1))) && decide ((am_w (l3 + 1)) < (ω1.2.2.1 : Int))) = true then (if (decide (0 ≤ (am_w (l3 + 2))) && decide ((am_w (l3 + 2)) < (ω1.2.2.1 : Int))) = true then (if am_is ω1 l2 (7, 30) = true then (am_bi (am_run (223, 0) 0 ([some (.inr (.inr l2)), some (.inl (ω1.2.2.2 (am_w (l3 + 1)).toNat)), some (.inl (ω1.2.2.2 (am_w (l3 + 2)).toNat)), none], [], ω1)) (fun z2 ω2 => if z1 = z2 then (am_run (240, 0) 1708 ([some (.inr (.inr ((-2)))), some (.inr (.inr l1)), some (.inr (.inr l2)), some (.inl l3)], [], ω2)) else (some (some (.inl 0), ω2)))) else none) else none) else none)) else none) else none := by
  refine Eq.trans (rr_aload_n rfl rfl) ?_
  refine Eq.trans (rr_aload_n rfl rfl) ?_
  refine Eq.trans (rr_iload_n rfl rfl) ?_
  refine Eq.trans (rr_iconst rfl rfl) ?_
  refine Eq.trans (rr_iadd rfl) ?_
  refine ck_it (fun h => rr_scrload rfl rfl h) (fun h => rr_scrload_no rfl rfl h) (fun h1 => ?_)
  refine Eq.trans (rr_aload_n rfl rfl) ?_
  refine Eq.trans (rr_iload_n rfl rfl) ?_
  refine Eq.trans (rr_iconst rfl rfl) ?_
  refine Eq.trans (rr_iadd rfl) ?_
  refine ck_it (fun h => rr_scrload rfl rfl h) (fun h => rr_scrload_no rfl rfl h) (fun h2 => ?_)
  refine Eq.trans (rr_invV0i (S' := []) (L' := [some (.inr (.inr l1)), some (.inl (ω.2.2.2 (am_w (l3 + 1)).toNat)), some (.inl (ω.2.2.2 (am_w (l3 + 2)).toNat)), none, none]) (m' := (120, 0)) rfl rfl rfl rfl rfl rfl h3) ?_
  refine bi_cg (fun z1 ω1 => ?_)
  refine Eq.trans (rr_aload_n rfl rfl) ?_
  refine Eq.trans (rr_aload_n rfl rfl) ?_
  refine Eq.trans (rr_iload_n rfl rfl) ?_
  refine Eq.trans (rr_iconst rfl rfl) ?_
  refine Eq.trans (rr_iadd rfl) ?_
  refine ck_it (fun h => rr_scrload rfl rfl h) (fun h => rr_scrload_no rfl rfl h) (fun h4 => ?_)
  refine Eq.trans (rr_aload_n rfl rfl) ?_
  refine Eq.trans (rr_iload_n rfl rfl) ?_
  refine Eq.trans (rr_iconst rfl rfl) ?_
  refine Eq.trans (rr_iadd rfl) ?_
  refine ck_it (fun h => rr_scrload rfl rfl h) (fun h => rr_scrload_no rfl rfl h) (fun h5 => ?_)
  refine ck_it (fun h => rr_invV0i (S' := [.inl z1]) (L' := [some (.inr (.inr l2)), some (.inl (ω1.2.2.2 (am_w (l3 + 1)).toNat)), some (.inl (ω1.2.2.2 (am_w (l3 + 2)).toNat)), none]) (m' := (223, 0)) rfl rfl rfl rfl rfl rfl h) (fun h => rr_invV0_no (S' := [.inl z1]) (L' := [some (.inr (.inr l2)), some (.inl (ω1.2.2.2 (am_w (l3 + 1)).toNat)), some (.inl (ω1.2.2.2 (am_w (l3 + 2)).toNat)), none]) (m' := (223, 0)) rfl rfl rfl rfl rfl rfl h) (fun h6 => ?_)
  refine bi_cg (fun z2 ω2 => ?_)
  refine Eq.trans (rr_icmp_eq rfl rfl) (it_cg (fun _ => ?_) (fun _ => ?_))
  · rfl
  · refine Eq.trans (rr_iconst rfl rfl) ?_
    exact rr_ireturn rfl rfl
theorem pL_law_1527 (l1 l2 l3 : Int) (ω : am_W) (h4 : am_is ω l1 (6, 10) = true) : am_run (240, 0) 1527 ([some (.inr (.inr ((-2)))), some (.inr (.inr l1)), some (.inr (.inr l2)), some (.inl l3)], [], ω) = if (decide (0 ≤ (am_w (l3 + 1))) && decide ((am_w (l3 + 1)) < (ω.2.2.1 : Int))) = true then (if (decide (0 ≤ (am_w (l3 + 2))) && decide ((am_w (l3 + 2)) < (ω.2.2.1 : Int))) = true then (if (decide (0 ≤ (am_w (l3 + 3))) && decide ((am_w (l3 + 3)) < (ω.2.2.1 : Int))) = true then (am_bi (am_run (121, 0) 0 ([some (.inr (.inr l1)), some (.inl (ω.2.2.2 (am_w (l3 + 1)).toNat)), some (.inl (ω.2.2.2 (am_w (l3 + 2)).toNat)), some (.inl (ω.2.2.2 (am_w (l3 + 3)).toNat)), none, none, none], [], ω)) (fun z1 ω1 => if (decide (0 ≤ (am_w (l3 + 1))) && decide ((am_w (l3 + 1)) < (ω1.2.2.1 : Int))) = true then (if (decide (0 ≤ (am_w (l3 + 2))) && decide ((am_w (l3 + 2)) < (ω1.2.2.1 : Int))) = true then (if (decide (0 ≤ (am_w (l3 + 3))) && decide ((am_w (l3 + 3)) < (ω1.2.2.1 : Int))) = true then (if am_is ω1 l2 (7, 30) = true then (am_bi (am_run (224, 0) 0 ([some (.inr (.inr l2)), some (.inl (ω1.2.2.2 (am_w (l3 + 1)).toNat)), some (.inl (ω1.2.2.2 (am_w (l3 + 2)).toNat)), some (.inl (ω1.2.2.2 (am_w (l3 + 3)).toNat))], [], ω1)) (fun z2 ω2 => if z1 = z2 then (am_run (240, 0) 1708 ([some (.inr (.inr ((-2)))), some (.inr (.inr l1)), some (.inr (.inr l2)), some (.inl l3)], [], ω2)) else (some (some (.inl 0), ω2)))) else none) else none) else none) else none)) else none) else none) else none := by
  refine Eq.trans (rr_aload_n rfl rfl) ?_
  refine Eq.trans (rr_aload_n rfl rfl) ?_
  refine Eq.trans (rr_iload_n rfl rfl) ?_
  refine Eq.trans (rr_iconst rfl rfl) ?_
  refine Eq.trans (rr_iadd rfl) ?_
  refine ck_it (fun h => rr_scrload rfl rfl h) (fun h => rr_scrload_no rfl rfl h) (fun h1 => ?_)
  refine Eq.trans (rr_aload_n rfl rfl) ?_
  refine Eq.trans (rr_iload_n rfl rfl) ?_
  refine Eq.trans (rr_iconst rfl rfl) ?_
  refine Eq.trans (rr_iadd rfl) ?_
  refine ck_it (fun h => rr_scrload rfl rfl h) (fun h => rr_scrload_no rfl rfl h) (fun h2 => ?_)
  refine Eq.trans (rr_aload_n rfl rfl) ?_
  refine Eq.trans (rr_iload_n rfl rfl) ?_
  refine Eq.trans (rr_iconst rfl rfl) ?_
  refine Eq.trans (rr_iadd rfl) ?_
  refine ck_it (fun h => rr_scrload rfl rfl h) (fun h => rr_scrload_no rfl rfl h) (fun h3 => ?_)
  refine Eq.trans (rr_invV0i (S' := []) (L' := [some (.inr (.inr l1)), some (.inl (ω.2.2.2 (am_w (l3 + 1)).toNat)), some (.inl (ω.2.2.2 (am_w (l3 + 2)).toNat)), some (.inl (ω.2.2.2 (am_w (l3 + 3)).toNat)), none, none, none]) (m' := (121, 0)) rfl rfl rfl rfl rfl rfl h4) ?_
  refine bi_cg (fun z1 ω1 => ?_)
  refine Eq.trans (rr_aload_n rfl rfl) ?_
  refine Eq.trans (rr_aload_n rfl rfl) ?_
  refine Eq.trans (rr_iload_n rfl rfl) ?_
  refine Eq.trans (rr_iconst rfl rfl) ?_
  refine Eq.trans (rr_iadd rfl) ?_
  refine ck_it (fun h => rr_scrload rfl rfl h) (fun h => rr_scrload_no rfl rfl h) (fun h5 => ?_)
  refine Eq.trans (rr_aload_n rfl rfl) ?_
  refine Eq.trans (rr_iload_n rfl rfl) ?_
  refine Eq.trans (rr_iconst rfl rfl) ?_
  refine Eq.trans (rr_iadd rfl) ?_
  refine ck_it (fun h => rr_scrload rfl rfl h) (fun h => rr_scrload_no rfl rfl h) (fun h6 => ?_)
  refine Eq.trans (rr_aload_n rfl rfl) ?_
  refine Eq.trans (rr_iload_n rfl rfl) ?_
  refine Eq.trans (rr_iconst rfl rfl) ?_
  refine Eq.trans (rr_iadd rfl) ?_
  refine ck_it (fun h => rr_scrload rfl rfl h) (fun h => rr_scrload_no rfl rfl h) (fun h7 => ?_)
  refine ck_it (fun h => rr_invV0i (S' := [.inl z1]) (L' := [some (.inr (.inr l2)), some (.inl (ω1.2.2.2 (am_w (l3 + 1)).toNat)), some (.inl (ω1.2.2.2 (am_w (l3 + 2)).toNat)), some (.inl (ω1.2.2.2 (am_w (l3 + 3)).toNat))]) (m' := (224, 0)) rfl rfl rfl rfl rfl rfl h) (fun h => rr_invV0_no (S' := [.inl z1]) (L' := [some (.inr (.inr l2)), some (.inl (ω1.2.2.2 (am_w (l3 + 1)).toNat)), some (.inl (ω1.2.2.2 (am_w (l3 + 2)).toNat)), some (.inl (ω1.2.2.2 (am_w (l3 + 3)).toNat))]) (m' := (224, 0)) rfl rfl rfl rfl rfl rfl h) (fun h8 => ?_)
  refine bi_cg (fun z2 ω2 => ?_)
  refine Eq.trans (rr_icmp_eq rfl rfl) (it_cg (fun _ => ?_) (fun _ => ?_))
  · rfl
  · refine Eq.trans (rr_iconst rfl rfl) ?_
    exact rr_ireturn rfl rfl
theorem pL_law_1570 (l1 l2 l3 : Int) (ω : am_W) (h4 : am_is ω l1 (6, 10) = true) : am_run (240, 0) 1570 ([some (.inr (.inr ((-2)))), some (.inr (.inr l1)), some (.inr (.inr l2)), some (.inl l3)], [], ω) = if (decide (0 ≤ (am_w (l3 + 1))) && decide ((am_w (l3 + 1)) < (ω.2.2.1 : Int))) = true then (if (decide (0 ≤ (am_w (l3 + 2))) && decide ((am_w (l3 + 2)) < (ω.2.2.1 : Int))) = true then (if (decide (0 ≤ (am_w (l3 + 3))) && decide ((am_w (l3 + 3)) < (ω.2.2.1 : Int))) = true then (am_bi (am_run (122, 0) 0 ([some (.inr (.inr l1)), some (.inl (ω.2.2.2 (am_w (l3 + 1)).toNat)), some (.inl (ω.2.2.2 (am_w (l3 + 2)).toNat)), some (.inl (ω.2.2.2 (am_w (l3 + 3)).toNat)), none, none, none], [], ω)) (fun z1 ω1 => if (decide (0 ≤ (am_w (l3 + 1))) && decide ((am_w (l3 + 1)) < (ω1.2.2.1 : Int))) = true then (if (decide (0 ≤ (am_w (l3 + 2))) && decide ((am_w (l3 + 2)) < (ω1.2.2.1 : Int))) = true then (if (decide (0 ≤ (am_w (l3 + 3))) && decide ((am_w (l3 + 3)) < (ω1.2.2.1 : Int))) = true then (if am_is ω1 l2 (7, 30) = true then (am_bi (am_run (225, 0) 0 ([some (.inr (.inr l2)), some (.inl (ω1.2.2.2 (am_w (l3 + 1)).toNat)), some (.inl (ω1.2.2.2 (am_w (l3 + 2)).toNat)), some (.inl (ω1.2.2.2 (am_w (l3 + 3)).toNat)), none, none], [], ω1)) (fun z2 ω2 => if z1 = z2 then (am_run (240, 0) 1708 ([some (.inr (.inr ((-2)))), some (.inr (.inr l1)), some (.inr (.inr l2)), some (.inl l3)], [], ω2)) else (some (some (.inl 0), ω2)))) else none) else none) else none) else none)) else none) else none) else none := by
  refine Eq.trans (rr_aload_n rfl rfl) ?_
  refine Eq.trans (rr_aload_n rfl rfl) ?_
  refine Eq.trans (rr_iload_n rfl rfl) ?_
  refine Eq.trans (rr_iconst rfl rfl) ?_
  refine Eq.trans (rr_iadd rfl) ?_
  refine ck_it (fun h => rr_scrload rfl rfl h) (fun h => rr_scrload_no rfl rfl h) (fun h1 => ?_)
  refine Eq.trans (rr_aload_n rfl rfl) ?_
  refine Eq.trans (rr_iload_n rfl rfl) ?_
  refine Eq.trans (rr_iconst rfl rfl) ?_
  refine Eq.trans (rr_iadd rfl) ?_
  refine ck_it (fun h => rr_scrload rfl rfl h) (fun h => rr_scrload_no rfl rfl h) (fun h2 => ?_)
  refine Eq.trans (rr_aload_n rfl rfl) ?_
  refine Eq.trans (rr_iload_n rfl rfl) ?_
  refine Eq.trans (rr_iconst rfl rfl) ?_
  refine Eq.trans (rr_iadd rfl) ?_
  refine ck_it (fun h => rr_scrload rfl rfl h) (fun h => rr_scrload_no rfl rfl h) (fun h3 => ?_)
  refine Eq.trans (rr_invV0i (S' := []) (L' := [some (.inr (.inr l1)), some (.inl (ω.2.2.2 (am_w (l3 + 1)).toNat)), some (.inl (ω.2.2.2 (am_w (l3 + 2)).toNat)), some (.inl (ω.2.2.2 (am_w (l3 + 3)).toNat)), none, none, none]) (m' := (122, 0)) rfl rfl rfl rfl rfl rfl h4) ?_
  refine bi_cg (fun z1 ω1 => ?_)
  refine Eq.trans (rr_aload_n rfl rfl) ?_
  refine Eq.trans (rr_aload_n rfl rfl) ?_
  refine Eq.trans (rr_iload_n rfl rfl) ?_
  refine Eq.trans (rr_iconst rfl rfl) ?_
  refine Eq.trans (rr_iadd rfl) ?_
  refine ck_it (fun h => rr_scrload rfl rfl h) (fun h => rr_scrload_no rfl rfl h) (fun h5 => ?_)
  refine Eq.trans (rr_aload_n rfl rfl) ?_
  refine Eq.trans (rr_iload_n rfl rfl) ?_
  refine Eq.trans (rr_iconst rfl rfl) ?_
  refine Eq.trans (rr_iadd rfl) ?_
  refine ck_it (fun h => rr_scrload rfl rfl h) (fun h => rr_scrload_no rfl rfl h) (fun h6 => ?_)
  refine Eq.trans (rr_aload_n rfl rfl) ?_
  refine Eq.trans (rr_iload_n rfl rfl) ?_
  refine Eq.trans (rr_iconst rfl rfl) ?_
  refine Eq.trans (rr_iadd rfl) ?_
  refine ck_it (fun h => rr_scrload rfl rfl h) (fun h => rr_scrload_no rfl rfl h) (fun h7 => ?_)
  refine ck_it (fun h => rr_invV0i (S' := [.inl z1]) (L' := [some (.inr (.inr l2)), some (.inl (ω1.2.2.2 (am_w (l3 + 1)).toNat)), some (.inl (ω1.2.2.2 (am_w (l3 + 2)).toNat)), some (.inl (ω1.2.2.2 (am_w (l3 + 3)).toNat)), none, none]) (m' := (225, 0)) rfl rfl rfl rfl rfl rfl h) (fun h => rr_invV0_no (S' := [.inl z1]) (L' := [some (.inr (.inr l2)), some (.inl (ω1.2.2.2 (am_w (l3 + 1)).toNat)), some (.inl (ω1.2.2.2 (am_w (l3 + 2)).toNat)), some (.inl (ω1.2.2.2 (am_w (l3 + 3)).toNat)), none, none]) (m' := (225, 0)) rfl rfl rfl rfl rfl rfl h) (fun h8 => ?_)
  refine bi_cg (fun z2 ω2 => ?_)
  refine Eq.trans (rr_icmp_eq rfl rfl) (it_cg (fun _ => ?_) (fun _ => ?_))
  · rfl
  · refine Eq.trans (rr_iconst rfl rfl) ?_
    exact rr_ireturn rfl rfl
theorem pL_law_1613 (l1 l2 l3 : Int) (ω : am_W) (h2 : am_is ω l1 (6, 10) = true) : am_run (240, 0) 1613 ([some (.inr (.inr ((-2)))), some (.inr (.inr l1)), some (.inr (.inr l2)), some (.inl l3)], [], ω) = if (decide (0 ≤ (am_w (l3 + 1))) && decide ((am_w (l3 + 1)) < (ω.2.2.1 : Int))) = true then (am_bi (am_run (123, 0) 0 ([some (.inr (.inr l1)), some (.inl (ω.2.2.2 (am_w (l3 + 1)).toNat)), none, none, none], [], ω)) (fun z1 ω1 => if (decide (0 ≤ (am_w (l3 + 1))) && decide ((am_w (l3 + 1)) < (ω1.2.2.1 : Int))) = true then (if am_is ω1 l2 (7, 30) = true then (am_bi (am_run (227, 0) 0 ([some (.inr (.inr l2)), some (.inl (ω1.2.2.2 (am_w (l3 + 1)).toNat)), none, none], [], ω1)) (fun z2 ω2 => if z1 = z2 then (am_run (240, 0) 1708 ([some (.inr (.inr ((-2)))), some (.inr (.inr l1)), some (.inr (.inr l2)), some (.inl l3)], [], ω2)) else (some (some (.inl 0), ω2)))) else none) else none)) else none := by
  refine Eq.trans (rr_aload_n rfl rfl) ?_
  refine Eq.trans (rr_aload_n rfl rfl) ?_
  refine Eq.trans (rr_iload_n rfl rfl) ?_
  refine Eq.trans (rr_iconst rfl rfl) ?_
  refine Eq.trans (rr_iadd rfl) ?_
  refine ck_it (fun h => rr_scrload rfl rfl h) (fun h => rr_scrload_no rfl rfl h) (fun h1 => ?_)
  refine Eq.trans (rr_invV0i (S' := []) (L' := [some (.inr (.inr l1)), some (.inl (ω.2.2.2 (am_w (l3 + 1)).toNat)), none, none, none]) (m' := (123, 0)) rfl rfl rfl rfl rfl rfl h2) ?_
  refine bi_cg (fun z1 ω1 => ?_)
  refine Eq.trans (rr_aload_n rfl rfl) ?_
  refine Eq.trans (rr_aload_n rfl rfl) ?_
  refine Eq.trans (rr_iload_n rfl rfl) ?_
  refine Eq.trans (rr_iconst rfl rfl) ?_
  refine Eq.trans (rr_iadd rfl) ?_
  refine ck_it (fun h => rr_scrload rfl rfl h) (fun h => rr_scrload_no rfl rfl h) (fun h3 => ?_)
  refine ck_it (fun h => rr_invV0i (S' := [.inl z1]) (L' := [some (.inr (.inr l2)), some (.inl (ω1.2.2.2 (am_w (l3 + 1)).toNat)), none, none]) (m' := (227, 0)) rfl rfl rfl rfl rfl rfl h) (fun h => rr_invV0_no (S' := [.inl z1]) (L' := [some (.inr (.inr l2)), some (.inl (ω1.2.2.2 (am_w (l3 + 1)).toNat)), none, none]) (m' := (227, 0)) rfl rfl rfl rfl rfl rfl h) (fun h4 => ?_)
  refine bi_cg (fun z2 ω2 => ?_)
  refine Eq.trans (rr_icmp_eq rfl rfl) (it_cg (fun _ => ?_) (fun _ => ?_))
  · rfl
  · refine Eq.trans (rr_iconst rfl rfl) ?_
    exact rr_ireturn rfl rfl
theorem pL_law_1636 (l1 l2 l3 : Int) (ω : am_W) (h2 : am_is ω l1 (6, 10) = true) : am_run (240, 0) 1636 ([some (.inr (.inr ((-2)))), some (.inr (.inr l1)), some (.inr (.inr l2)), some (.inl l3)], [], ω) = if (decide (0 ≤ (am_w (l3 + 1))) && decide ((am_w (l3 + 1)) < (ω.2.2.1 : Int))) = true then (am_bi (am_run (124, 0) 0 ([some (.inr (.inr l1)), some (.inl (ω.2.2.2 (am_w (l3 + 1)).toNat)), none], [], ω)) (fun z1 ω1 => if (decide (0 ≤ (am_w (l3 + 1))) && decide ((am_w (l3 + 1)) < (ω1.2.2.1 : Int))) = true then (if am_is ω1 l2 (7, 30) = true then (am_bi (am_run (228, 0) 0 ([some (.inr (.inr l2)), some (.inl (ω1.2.2.2 (am_w (l3 + 1)).toNat)), none], [], ω1)) (fun z2 ω2 => if z1 = z2 then (am_run (240, 0) 1708 ([some (.inr (.inr ((-2)))), some (.inr (.inr l1)), some (.inr (.inr l2)), some (.inl l3)], [], ω2)) else (some (some (.inl 0), ω2)))) else none) else none)) else none := by
  refine Eq.trans (rr_aload_n rfl rfl) ?_
  refine Eq.trans (rr_aload_n rfl rfl) ?_
  refine Eq.trans (rr_iload_n rfl rfl) ?_
  refine Eq.trans (rr_iconst rfl rfl) ?_
  refine Eq.trans (rr_iadd rfl) ?_
  refine ck_it (fun h => rr_scrload rfl rfl h) (fun h => rr_scrload_no rfl rfl h) (fun h1 => ?_)
  refine Eq.trans (rr_invV0i (S' := []) (L' := [some (.inr (.inr l1)), some (.inl (ω.2.2.2 (am_w (l3 + 1)).toNat)), none]) (m' := (124, 0)) rfl rfl rfl rfl rfl rfl h2) ?_
  refine bi_cg (fun z1 ω1 => ?_)
  refine Eq.trans (rr_aload_n rfl rfl) ?_
  refine Eq.trans (rr_aload_n rfl rfl) ?_
  refine Eq.trans (rr_iload_n rfl rfl) ?_
  refine Eq.trans (rr_iconst rfl rfl) ?_
  refine Eq.trans (rr_iadd rfl) ?_
  refine ck_it (fun h => rr_scrload rfl rfl h) (fun h => rr_scrload_no rfl rfl h) (fun h3 => ?_)
  refine ck_it (fun h => rr_invV0i (S' := [.inl z1]) (L' := [some (.inr (.inr l2)), some (.inl (ω1.2.2.2 (am_w (l3 + 1)).toNat)), none]) (m' := (228, 0)) rfl rfl rfl rfl rfl rfl h) (fun h => rr_invV0_no (S' := [.inl z1]) (L' := [some (.inr (.inr l2)), some (.inl (ω1.2.2.2 (am_w (l3 + 1)).toNat)), none]) (m' := (228, 0)) rfl rfl rfl rfl rfl rfl h) (fun h4 => ?_)
  refine bi_cg (fun z2 ω2 => ?_)
  refine Eq.trans (rr_icmp_eq rfl rfl) (it_cg (fun _ => ?_) (fun _ => ?_))
  · rfl
  · refine Eq.trans (rr_iconst rfl rfl) ?_
    exact rr_ireturn rfl rfl
theorem pL_law_1659 (l1 l2 l3 : Int) (ω : am_W) (h1 : am_is ω l1 (6, 10) = true) : am_run (240, 0) 1659 ([some (.inr (.inr ((-2)))), some (.inr (.inr l1)), some (.inr (.inr l2)), some (.inl l3)], [], ω) = am_bi (am_run (125, 0) 0 ([some (.inr (.inr l1))], [], ω)) (fun z1 ω1 => if am_is ω1 l2 (7, 30) = true then (am_bi (am_run (231, 0) 0 ([some (.inr (.inr l2))], [], ω1)) (fun z2 ω2 => if z1 = z2 then (am_run (240, 0) 1708 ([some (.inr (.inr ((-2)))), some (.inr (.inr l1)), some (.inr (.inr l2)), some (.inl l3)], [], ω2)) else (some (some (.inl 0), ω2)))) else none) := by
  refine Eq.trans (rr_aload_n rfl rfl) ?_
  refine Eq.trans (rr_invV0i (S' := []) (L' := [some (.inr (.inr l1))]) (m' := (125, 0)) rfl rfl rfl rfl rfl rfl h1) ?_
  refine bi_cg (fun z1 ω1 => ?_)
  refine Eq.trans (rr_aload_n rfl rfl) ?_
  refine ck_it (fun h => rr_invV0i (S' := [.inl z1]) (L' := [some (.inr (.inr l2))]) (m' := (231, 0)) rfl rfl rfl rfl rfl rfl h) (fun h => rr_invV0_no (S' := [.inl z1]) (L' := [some (.inr (.inr l2))]) (m' := (231, 0)) rfl rfl rfl rfl rfl rfl h) (fun h2 => ?_)
  refine bi_cg (fun z2 ω2 => ?_)
  refine Eq.trans (rr_icmp_eq rfl rfl) (it_cg (fun _ => ?_) (fun _ => ?_))
  · rfl
  · refine Eq.trans (rr_iconst rfl rfl) ?_
    exact rr_ireturn rfl rfl
theorem pL_law_1672 (l1 l2 l3 : Int) (ω : am_W) (h1 : am_is ω l1 (6, 10) = true) : am_run (240, 0) 1672 ([some (.inr (.inr ((-2)))), some (.inr (.inr l1)), some (.inr (.inr l2)), some (.inl l3)], [], ω) = am_bi (am_run (126, 0) 0 ([some (.inr (.inr l1)), none], [], ω)) (fun z1 ω1 => if am_is ω1 l2 (7, 30) = true then (am_bi (am_run (232, 0) 0 ([some (.inr (.inr l2)), none], [], ω1)) (fun z2 ω2 => if z1 = z2 then (am_run (240, 0) 1708 ([some (.inr (.inr ((-2)))), some (.inr (.inr l1)), some (.inr (.inr l2)), some (.inl l3)], [], ω2)) else (some (some (.inl 0), ω2)))) else none) := by
  refine Eq.trans (rr_aload_n rfl rfl) ?_
  refine Eq.trans (rr_invV0i (S' := []) (L' := [some (.inr (.inr l1)), none]) (m' := (126, 0)) rfl rfl rfl rfl rfl rfl h1) ?_
  refine bi_cg (fun z1 ω1 => ?_)
  refine Eq.trans (rr_aload_n rfl rfl) ?_
  refine ck_it (fun h => rr_invV0i (S' := [.inl z1]) (L' := [some (.inr (.inr l2)), none]) (m' := (232, 0)) rfl rfl rfl rfl rfl rfl h) (fun h => rr_invV0_no (S' := [.inl z1]) (L' := [some (.inr (.inr l2)), none]) (m' := (232, 0)) rfl rfl rfl rfl rfl rfl h) (fun h2 => ?_)
  refine bi_cg (fun z2 ω2 => ?_)
  refine Eq.trans (rr_icmp_eq rfl rfl) (it_cg (fun _ => ?_) (fun _ => ?_))
  · rfl
  · refine Eq.trans (rr_iconst rfl rfl) ?_
    exact rr_ireturn rfl rfl
theorem pL_law_1685 (l1 l2 l3 : Int) (ω : am_W) (h2 : am_is ω l1 (6, 10) = true) : am_run (240, 0) 1685 ([some (.inr (.inr ((-2)))), some (.inr (.inr l1)), some (.inr (.inr l2)), some (.inl l3)], [], ω) = if (decide (0 ≤ (am_w (l3 + 1))) && decide ((am_w (l3 + 1)) < (ω.2.2.1 : Int))) = true then (am_bi (am_run (127, 0) 0 ([some (.inr (.inr l1)), some (.inl (ω.2.2.2 (am_w (l3 + 1)).toNat))], [], ω)) (fun z1 ω1 => if (decide (0 ≤ (am_w (l3 + 1))) && decide ((am_w (l3 + 1)) < (ω1.2.2.1 : Int))) = true then (if am_is ω1 l2 (7, 30) = true then (am_bi (am_run (233, 0) 0 ([some (.inr (.inr l2)), some (.inl (ω1.2.2.2 (am_w (l3 + 1)).toNat)), none, none], [], ω1)) (fun z2 ω2 => if z1 = z2 then (am_run (240, 0) 1708 ([some (.inr (.inr ((-2)))), some (.inr (.inr l1)), some (.inr (.inr l2)), some (.inl l3)], [], ω2)) else (some (some (.inl 0), ω2)))) else none) else none)) else none := by
  refine Eq.trans (rr_aload_n rfl rfl) ?_
  refine Eq.trans (rr_aload_n rfl rfl) ?_
  refine Eq.trans (rr_iload_n rfl rfl) ?_
  refine Eq.trans (rr_iconst rfl rfl) ?_
  refine Eq.trans (rr_iadd rfl) ?_
  refine ck_it (fun h => rr_scrload rfl rfl h) (fun h => rr_scrload_no rfl rfl h) (fun h1 => ?_)
  refine Eq.trans (rr_invV0i (S' := []) (L' := [some (.inr (.inr l1)), some (.inl (ω.2.2.2 (am_w (l3 + 1)).toNat))]) (m' := (127, 0)) rfl rfl rfl rfl rfl rfl h2) ?_
  refine bi_cg (fun z1 ω1 => ?_)
  refine Eq.trans (rr_aload_n rfl rfl) ?_
  refine Eq.trans (rr_aload_n rfl rfl) ?_
  refine Eq.trans (rr_iload_n rfl rfl) ?_
  refine Eq.trans (rr_iconst rfl rfl) ?_
  refine Eq.trans (rr_iadd rfl) ?_
  refine ck_it (fun h => rr_scrload rfl rfl h) (fun h => rr_scrload_no rfl rfl h) (fun h3 => ?_)
  refine ck_it (fun h => rr_invV0i (S' := [.inl z1]) (L' := [some (.inr (.inr l2)), some (.inl (ω1.2.2.2 (am_w (l3 + 1)).toNat)), none, none]) (m' := (233, 0)) rfl rfl rfl rfl rfl rfl h) (fun h => rr_invV0_no (S' := [.inl z1]) (L' := [some (.inr (.inr l2)), some (.inl (ω1.2.2.2 (am_w (l3 + 1)).toNat)), none, none]) (m' := (233, 0)) rfl rfl rfl rfl rfl rfl h) (fun h4 => ?_)
  refine bi_cg (fun z2 ω2 => ?_)
  refine Eq.trans (rr_icmp_eq rfl rfl) (it_cg (fun _ => ?_) (fun _ => ?_))
  · rfl
  · refine Eq.trans (rr_iconst rfl rfl) ?_
    exact rr_ireturn rfl rfl
theorem pL_law_1708 (l1 l2 l3 : Int) (ω : am_W) : am_run (240, 0) 1708 ([some (.inr (.inr ((-2)))), some (.inr (.inr l1)), some (.inr (.inr l2)), some (.inl l3)], [], ω) = am_run (240, 0) 18 ([some (.inr (.inr ((-2)))), some (.inr (.inr l1)), some (.inr (.inr l2)), some (.inl (am_w (l3 + 6)))], [], ω) := by
  refine Eq.trans (rr_iinc (L' := [some (.inr (.inr ((-2)))), some (.inr (.inr l1)), some (.inr (.inr l2)), some (.inl (am_w (l3 + 6)))]) rfl rfl rfl) ?_
  refine Eq.trans (rr_goto rfl rfl) ?_
  rfl
