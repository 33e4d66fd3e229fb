theorem pX7_init_0 (l0 : Int) (ω : am_W) (h1 : 0 ≤ l0) : am_run (147, 0) 0 ([some (.inr (.inr l0)), none], [], ω) = if am_is (am_new ω (100, 8) (fun _ => 0)) l0 (7, 30) = true then (am_run (147, 0) 12 ([some (.inr (.inr l0)), none], [], am_put (am_new ω (100, 8) (fun _ => 0)) l0.toNat 0 (((ω).1.length : Int)))) else none := by
  refine Eq.trans (rr_aload_n rfl rfl) ?_
  refine Eq.trans (rr_objInit rfl rfl rfl (decide_eq_true h1) rfl) ?_
  refine Eq.trans (rr_aload_n rfl rfl) ?_
  refine Eq.trans (rr_bipush rfl rfl) ?_
  refine Eq.trans (rr_newarrayI rfl rfl) ?_
  refine ck_it (fun h => rr_putfieldr rfl rfl (by rw [Bool.and_eq_true, Bool.and_eq_true]; exact ⟨rfl, rfl, decide_eq_true (by omega)⟩) h) (fun h => rr_putfieldr_no rfl rfl h) (fun h2 => ?_)
  rfl
theorem pX7_init_12 (l0 : Int) (o1 : Option am_V) (ω : am_W) : am_run (147, 0) 12 ([some (.inr (.inr l0)), o1], [], ω) = if am_is (am_new ω (100, 8) (fun _ => 0)) l0 (7, 30) = true then (am_run (147, 0) 20 ([some (.inr (.inr l0)), o1], [], am_put (am_new ω (100, 8) (fun _ => 0)) l0.toNat 1 (((ω).1.length : Int)))) else none := by
  refine Eq.trans (rr_aload_n rfl rfl) ?_
  refine Eq.trans (rr_bipush rfl rfl) ?_
  refine Eq.trans (rr_newarrayI rfl rfl) ?_
  refine ck_it (fun h => rr_putfieldr rfl rfl (by rw [Bool.and_eq_true, Bool.and_eq_true]; exact ⟨rfl, rfl, decide_eq_true (by omega)⟩) h) (fun h => rr_putfieldr_no rfl rfl h) (fun h1 => ?_)
  rfl
theorem pX7_init_20 (l0 : Int) (o1 : Option am_V) (ω : am_W) : am_run (147, 0) 20 ([some (.inr (.inr l0)), o1], [], ω) = if am_is (am_new ω (101, 320) (fun _ => 0)) l0 (7, 30) = true then (am_run (147, 0) 29 ([some (.inr (.inr l0)), o1], [], am_put (am_new ω (101, 320) (fun _ => 0)) l0.toNat 2 (((ω).1.length : Int)))) else none := by
  refine Eq.trans (rr_aload_n rfl rfl) ?_
  refine Eq.trans (rr_sipush rfl rfl) ?_
  refine Eq.trans (rr_newarrayL rfl rfl) ?_
  refine ck_it (fun h => rr_putfieldr rfl rfl (by rw [Bool.and_eq_true, Bool.and_eq_true]; exact ⟨rfl, rfl, decide_eq_true (by omega)⟩) h) (fun h => rr_putfieldr_no rfl rfl h) (fun h1 => ?_)
  rfl
theorem pX7_init_29 (l0 : Int) (o1 : Option am_V) (ω : am_W) : am_run (147, 0) 29 ([some (.inr (.inr l0)), o1], [], ω) = if am_is (am_new ω (100, 6) (fun _ => 0)) l0 (7, 30) = true then (am_run (147, 0) 37 ([some (.inr (.inr l0)), o1], [], am_put (am_new ω (100, 6) (fun _ => 0)) l0.toNat 4 (((ω).1.length : Int)))) else none := by
  refine Eq.trans (rr_aload_n rfl rfl) ?_
  refine Eq.trans (rr_bipush rfl rfl) ?_
  refine Eq.trans (rr_newarrayI rfl rfl) ?_
  refine ck_it (fun h => rr_putfieldr rfl rfl (by rw [Bool.and_eq_true, Bool.and_eq_true]; exact ⟨rfl, rfl, decide_eq_true (by omega)⟩) h) (fun h => rr_putfieldr_no rfl rfl h) (fun h1 => ?_)
  rfl
theorem pX7_init_37 (l0 : Int) (o1 : Option am_V) (ω : am_W) : am_run (147, 0) 37 ([some (.inr (.inr l0)), o1], [], ω) = if am_is (am_new ω (100, 6) (fun _ => 0)) l0 (7, 30) = true then (am_run (147, 0) 45 ([some (.inr (.inr l0)), o1], [], am_put (am_new ω (100, 6) (fun _ => 0)) l0.toNat 5 (((ω).1.length : Int)))) else none := by
  refine Eq.trans (rr_aload_n rfl rfl) ?_
  refine Eq.trans (rr_bipush rfl rfl) ?_
  refine Eq.trans (rr_newarrayI rfl rfl) ?_
  refine ck_it (fun h => rr_putfieldr rfl rfl (by rw [Bool.and_eq_true, Bool.and_eq_true]; exact ⟨rfl, rfl, decide_eq_true (by omega)⟩) h) (fun h => rr_putfieldr_no rfl rfl h) (fun h1 => ?_)
  rfl
theorem pX7_init_45 (l0 : Int) (o1 : Option am_V) (ω : am_W) : am_run (147, 0) 45 ([some (.inr (.inr l0)), o1], [], ω) = if am_is (am_new ω (100, 6) (fun _ => 0)) l0 (7, 30) = true then (am_run (147, 0) 53 ([some (.inr (.inr l0)), o1], [], am_put (am_new ω (100, 6) (fun _ => 0)) l0.toNat 7 (((ω).1.length : Int)))) else none := by
  refine Eq.trans (rr_aload_n rfl rfl) ?_
  refine Eq.trans (rr_bipush rfl rfl) ?_
  refine Eq.trans (rr_newarrayI rfl rfl) ?_
  refine ck_it (fun h => rr_putfieldr rfl rfl (by rw [Bool.and_eq_true, Bool.and_eq_true]; exact ⟨rfl, rfl, decide_eq_true (by omega)⟩) h) (fun h => rr_putfieldr_no rfl rfl h) (fun h1 => ?_)
  rfl
theorem pX7_init_53 (l0 : Int) (o1 : Option am_V) (ω : am_W) : am_run (147, 0) 53 ([some (.inr (.inr l0)), o1], [], ω) = if am_is (am_new ω (100, 6) (fun _ => 0)) l0 (7, 30) = true then (am_run (147, 0) 61 ([some (.inr (.inr l0)), o1], [], am_put (am_new ω (100, 6) (fun _ => 0)) l0.toNat 8 (((ω).1.length : Int)))) else none := by
  refine Eq.trans (rr_aload_n rfl rfl) ?_
  refine Eq.trans (rr_bipush rfl rfl) ?_
  refine Eq.trans (rr_newarrayI rfl rfl) ?_
  refine ck_it (fun h => rr_putfieldr rfl rfl (by rw [Bool.and_eq_true, Bool.and_eq_true]; exact ⟨rfl, rfl, decide_eq_true (by omega)⟩) h) (fun h => rr_putfieldr_no rfl rfl h) (fun h1 => ?_)
  rfl
theorem pX7_init_61 (l0 : Int) (o1 : Option am_V) (ω : am_W) : am_run (147, 0) 61 ([some (.inr (.inr l0)), o1], [], ω) = if am_is (am_new ω (100, 6) (fun _ => 0)) l0 (7, 30) = true then (am_run (147, 0) 69 ([some (.inr (.inr l0)), o1], [], am_put (am_new ω (100, 6) (fun _ => 0)) l0.toNat 9 (((ω).1.length : Int)))) else none := by
  refine Eq.trans (rr_aload_n rfl rfl) ?_
  refine Eq.trans (rr_bipush rfl rfl) ?_
  refine Eq.trans (rr_newarrayI rfl rfl) ?_
  refine ck_it (fun h => rr_putfieldr rfl rfl (by rw [Bool.and_eq_true, Bool.and_eq_true]; exact ⟨rfl, rfl, decide_eq_true (by omega)⟩) h) (fun h => rr_putfieldr_no rfl rfl h) (fun h1 => ?_)
  rfl
theorem pX7_init_69 (l0 : Int) (o1 : Option am_V) (ω : am_W) : am_run (147, 0) 69 ([some (.inr (.inr l0)), o1], [], ω) = if am_is (am_new ω (100, 6) (fun _ => 0)) l0 (7, 30) = true then (am_run (147, 0) 77 ([some (.inr (.inr l0)), o1], [], am_put (am_new ω (100, 6) (fun _ => 0)) l0.toNat 10 (((ω).1.length : Int)))) else none := by
  refine Eq.trans (rr_aload_n rfl rfl) ?_
  refine Eq.trans (rr_bipush rfl rfl) ?_
  refine Eq.trans (rr_newarrayI rfl rfl) ?_
  refine ck_it (fun h => rr_putfieldr rfl rfl (by rw [Bool.and_eq_true, Bool.and_eq_true]; exact ⟨rfl, rfl, decide_eq_true (by omega)⟩) h) (fun h => rr_putfieldr_no rfl rfl h) (fun h1 => ?_)
  rfl
theorem pX7_init_77 (l0 : Int) (o1 : Option am_V) (ω : am_W) : am_run (147, 0) 77 ([some (.inr (.inr l0)), o1], [], ω) = if am_is (am_new ω (100, 6) (fun _ => 0)) l0 (7, 30) = true then (am_run (147, 0) 85 ([some (.inr (.inr l0)), o1], [], am_put (am_new ω (100, 6) (fun _ => 0)) l0.toNat 11 (((ω).1.length : Int)))) else none := by
  refine Eq.trans (rr_aload_n rfl rfl) ?_
  refine Eq.trans (rr_bipush rfl rfl) ?_
  refine Eq.trans (rr_newarrayI rfl rfl) ?_
  refine ck_it (fun h => rr_putfieldr rfl rfl (by rw [Bool.and_eq_true, Bool.and_eq_true]; exact ⟨rfl, rfl, decide_eq_true (by omega)⟩) h) (fun h => rr_putfieldr_no rfl rfl h) (fun h1 => ?_)
  rfl
theorem pX7_init_85 (l0 : Int) (o1 : Option am_V) (ω : am_W) : am_run (147, 0) 85 ([some (.inr (.inr l0)), o1], [], ω) = if am_is (am_new ω (100, 250) (fun _ => 0)) l0 (7, 30) = true then (am_run (147, 0) 94 ([some (.inr (.inr l0)), o1], [], am_put (am_new ω (100, 250) (fun _ => 0)) l0.toNat 16 (((ω).1.length : Int)))) else none := by
  refine Eq.trans (rr_aload_n rfl rfl) ?_
  refine Eq.trans (rr_sipush rfl rfl) ?_
  refine Eq.trans (rr_newarrayI rfl rfl) ?_
  refine ck_it (fun h => rr_putfieldr rfl rfl (by rw [Bool.and_eq_true, Bool.and_eq_true]; exact ⟨rfl, rfl, decide_eq_true (by omega)⟩) h) (fun h => rr_putfieldr_no rfl rfl h) (fun h1 => ?_)
  rfl
theorem pX7_init_94 (l0 : Int) (o1 : Option am_V) (ω : am_W) : am_run (147, 0) 94 ([some (.inr (.inr l0)), o1], [], ω) = if am_is (am_new ω (100, 7) (fun _ => 0)) l0 (7, 30) = true then (am_run (147, 0) 102 ([some (.inr (.inr l0)), o1], [], am_put (am_new ω (100, 7) (fun _ => 0)) l0.toNat 21 (((ω).1.length : Int)))) else none := by
  refine Eq.trans (rr_aload_n rfl rfl) ?_
  refine Eq.trans (rr_bipush rfl rfl) ?_
  refine Eq.trans (rr_newarrayI rfl rfl) ?_
  refine ck_it (fun h => rr_putfieldr rfl rfl (by rw [Bool.and_eq_true, Bool.and_eq_true]; exact ⟨rfl, rfl, decide_eq_true (by omega)⟩) h) (fun h => rr_putfieldr_no rfl rfl h) (fun h1 => ?_)
  rfl
theorem pX7_init_102 (l0 : Int) (o1 : Option am_V) (ω : am_W) : am_run (147, 0) 102 ([some (.inr (.inr l0)), o1], [], ω) = if am_is (am_new ω (100, 47) (fun _ => 0)) l0 (7, 30) = true then (am_run (147, 0) 110 ([some (.inr (.inr l0)), o1], [], am_put (am_new ω (100, 47) (fun _ => 0)) l0.toNat 23 (((ω).1.length : Int)))) else none := by
  refine Eq.trans (rr_aload_n rfl rfl) ?_
  refine Eq.trans (rr_bipush rfl rfl) ?_
  refine Eq.trans (rr_newarrayI rfl rfl) ?_
  refine ck_it (fun h => rr_putfieldr rfl rfl (by rw [Bool.and_eq_true, Bool.and_eq_true]; exact ⟨rfl, rfl, decide_eq_true (by omega)⟩) h) (fun h => rr_putfieldr_no rfl rfl h) (fun h1 => ?_)
  rfl
theorem pX7_init_110 (l0 : Int) (o1 : Option am_V) (ω : am_W) : am_run (147, 0) 110 ([some (.inr (.inr l0)), o1], [], ω) = if am_is (am_new ω (100, 47) (fun _ => 0)) l0 (7, 30) = true then (am_run (147, 0) 118 ([some (.inr (.inr l0)), o1], [], am_put (am_new ω (100, 47) (fun _ => 0)) l0.toNat 24 (((ω).1.length : Int)))) else none := by
  refine Eq.trans (rr_aload_n rfl rfl) ?_
  refine Eq.trans (rr_bipush rfl rfl) ?_
  refine Eq.trans (rr_newarrayI rfl rfl) ?_
  refine ck_it (fun h => rr_putfieldr rfl rfl (by rw [Bool.and_eq_true, Bool.and_eq_true]; exact ⟨rfl, rfl, decide_eq_true (by omega)⟩) h) (fun h => rr_putfieldr_no rfl rfl h) (fun h1 => ?_)
  rfl
theorem pX7_init_118 (l0 : Int) (o1 : Option am_V) (ω : am_W) : am_run (147, 0) 118 ([some (.inr (.inr l0)), o1], [], ω) = if am_is (am_new ω (100, 10560) (fun _ => 0)) l0 (7, 30) = true then (am_run (147, 0) 127 ([some (.inr (.inr l0)), o1], [], am_put (am_new ω (100, 10560) (fun _ => 0)) l0.toNat 25 (((ω).1.length : Int)))) else none := by
  refine Eq.trans (rr_aload_n rfl rfl) ?_
  refine Eq.trans (rr_sipush rfl rfl) ?_
  refine Eq.trans (rr_newarrayI rfl rfl) ?_
  refine ck_it (fun h => rr_putfieldr rfl rfl (by rw [Bool.and_eq_true, Bool.and_eq_true]; exact ⟨rfl, rfl, decide_eq_true (by omega)⟩) h) (fun h => rr_putfieldr_no rfl rfl h) (fun h1 => ?_)
  rfl
theorem pX7_init_127 (l0 : Int) (o1 : Option am_V) (ω : am_W) : am_run (147, 0) 127 ([some (.inr (.inr l0)), o1], [], ω) = if am_is (am_new ω (100, 10560) (fun _ => 0)) l0 (7, 30) = true then (am_run (147, 0) 136 ([some (.inr (.inr l0)), o1], [], am_put (am_new ω (100, 10560) (fun _ => 0)) l0.toNat 26 (((ω).1.length : Int)))) else none := by
  refine Eq.trans (rr_aload_n rfl rfl) ?_
  refine Eq.trans (rr_sipush rfl rfl) ?_
  refine Eq.trans (rr_newarrayI rfl rfl) ?_
  refine ck_it (fun h => rr_putfieldr rfl rfl (by rw [Bool.and_eq_true, Bool.and_eq_true]; exact ⟨rfl, rfl, decide_eq_true (by omega)⟩) h) (fun h => rr_putfieldr_no rfl rfl h) (fun h1 => ?_)
  rfl
theorem pX7_init_136 (l0 : Int) (o1 : Option am_V) (ω : am_W) : am_run (147, 0) 136 ([some (.inr (.inr l0)), o1], [], ω) = if am_is (am_new ω (100, 80520) (fun _ => 0)) l0 (7, 30) = true then (am_run (147, 0) 144 ([some (.inr (.inr l0)), o1], [], am_put (am_new ω (100, 80520) (fun _ => 0)) l0.toNat 27 (((ω).1.length : Int)))) else none := by
  refine Eq.trans (rr_aload_n rfl rfl) ?_
  refine Eq.trans (rr_ldc rfl rfl) ?_
  refine Eq.trans (rr_newarrayI rfl rfl) ?_
  refine ck_it (fun h => rr_putfieldr rfl rfl (by rw [Bool.and_eq_true, Bool.and_eq_true]; exact ⟨rfl, rfl, decide_eq_true (by omega)⟩) h) (fun h => rr_putfieldr_no rfl rfl h) (fun h1 => ?_)
  rfl
theorem pX7_init_144 (l0 : Int) (o1 : Option am_V) (ω : am_W) : am_run (147, 0) 144 ([some (.inr (.inr l0)), o1], [], ω) = if am_is (am_new ω (100, 60) (fun _ => 0)) l0 (7, 30) = true then (am_run (147, 0) 152 ([some (.inr (.inr l0)), o1], [], am_put (am_new ω (100, 60) (fun _ => 0)) l0.toNat 28 (((ω).1.length : Int)))) else none := by
  refine Eq.trans (rr_aload_n rfl rfl) ?_
  refine Eq.trans (rr_bipush rfl rfl) ?_
  refine Eq.trans (rr_newarrayI rfl rfl) ?_
  refine ck_it (fun h => rr_putfieldr rfl rfl (by rw [Bool.and_eq_true, Bool.and_eq_true]; exact ⟨rfl, rfl, decide_eq_true (by omega)⟩) h) (fun h => rr_putfieldr_no rfl rfl h) (fun h1 => ?_)
  rfl
theorem pX7_init_152 (l0 : Int) (o1 : Option am_V) (ω : am_W) : am_run (147, 0) 152 ([some (.inr (.inr l0)), o1], [], ω) = am_run (147, 0) 154 ([some (.inr (.inr l0)), some (.inl 0)], [], ω) := by
  refine Eq.trans (rr_iconst rfl rfl) ?_
  refine Eq.trans (rr_istore_n (L' := [some (.inr (.inr l0)), some (.inl 0)]) rfl rfl) ?_
  rfl
theorem pX7_init_154 (l0 l1 : Int) (ω : am_W) (h1 : am_is ω l0 (7, 30) = true) : am_run (147, 0) 154 ([some (.inr (.inr l0)), some (.inl l1)], [], ω) = if 8 ≤ l1 then (am_run (147, 0) 178 ([some (.inr (.inr l0)), some (.inl l1)], [], am_put ω l0.toNat 3 4)) else (if am_in ω (am_get ω l0.toNat 0) 100 l1 = true then (am_run (147, 0) 154 ([some (.inr (.inr l0)), some (.inl (am_w (l1 + 1)))], [], am_put ω (am_get ω l0.toNat 0).toNat l1.toNat ((-1)))) else none) := by
  refine Eq.trans (rr_iload_n rfl rfl) ?_
  refine Eq.trans (rr_bipush rfl rfl) ?_
  refine Eq.trans (rr_icmp_ge rfl rfl) (it_cg (fun _ => ?_) (fun _ => ?_))
  · refine Eq.trans (rr_aload_n rfl rfl) ?_
    refine Eq.trans (rr_iconst rfl rfl) ?_
    refine Eq.trans (rr_putfieldi rfl rfl rfl h1) ?_
    rfl
  · refine Eq.trans (rr_aload_n rfl rfl) ?_
    refine Eq.trans (rr_getfr rfl rfl rfl h1) ?_
    refine Eq.trans (rr_iload_n rfl rfl) ?_
    refine Eq.trans (rr_iconst rfl rfl) ?_
    refine ck_it (fun h => rr_iastore rfl h) (fun h => rr_iastore_no rfl h) (fun h2 => ?_)
    refine Eq.trans (rr_iinc (L' := [some (.inr (.inr l0)), some (.inl (am_w (l1 + 1)))]) rfl rfl rfl) ?_
    refine Eq.trans (rr_goto rfl rfl) ?_
    rfl
theorem pX7_init_178 (l0 l1 : Int) (ω : am_W) : am_run (147, 0) 178 ([some (.inr (.inr l0)), some (.inl l1)], [], ω) = am_run (147, 0) 180 ([some (.inr (.inr l0)), some (.inl 0)], [], ω) := by
  refine Eq.trans (rr_iconst rfl rfl) ?_
  refine Eq.trans (rr_istore_n (L' := [some (.inr (.inr l0)), some (.inl 0)]) rfl rfl) ?_
  rfl
theorem pX7_init_180 (l0 l1 : Int) (ω : am_W) (h1 : am_is ω l0 (7, 30) = true) : am_run (147, 0) 180 ([some (.inr (.inr l0)), some (.inl l1)], [], ω) = if 6 ≤ l1 then (some (none, am_put ω l0.toNat 14 1)) else (if am_in ω (am_get ω l0.toNat 4) 100 l1 = true then (if am_in (am_put ω (am_get ω l0.toNat 4).toNat l1.toNat (am_w (4 + (am_w (2 * l1))))) (am_get (am_put ω (am_get ω l0.toNat 4).toNat l1.toNat (am_w (4 + (am_w (2 * l1))))) l0.toNat 5) 100 l1 = true then (am_run (147, 0) 204 ([some (.inr (.inr l0)), some (.inl l1)], [], am_put (am_put ω (am_get ω l0.toNat 4).toNat l1.toNat (am_w (4 + (am_w (2 * l1))))) (am_get (am_put ω (am_get ω l0.toNat 4).toNat l1.toNat (am_w (4 + (am_w (2 * l1))))) l0.toNat 5).toNat l1.toNat 1)) else none) else none) := by
  refine Eq.trans (rr_iload_n rfl rfl) ?_
  refine Eq.trans (rr_bipush rfl rfl) ?_
  refine Eq.trans (rr_icmp_ge rfl rfl) (it_cg (fun _ => ?_) (fun _ => ?_))
  · refine Eq.trans (rr_aload_n rfl rfl) ?_
    refine Eq.trans (rr_iconst rfl rfl) ?_
    refine Eq.trans (rr_putfieldi rfl rfl rfl h1) ?_
    exact rr_return rfl rfl
  · refine Eq.trans (rr_aload_n rfl rfl) ?_
    refine Eq.trans (rr_getfr rfl rfl rfl h1) ?_
    refine Eq.trans (rr_iload_n rfl rfl) ?_
    refine Eq.trans (rr_iconst rfl rfl) ?_
    refine Eq.trans (rr_iconst rfl rfl) ?_
    refine Eq.trans (rr_iload_n rfl rfl) ?_
    refine Eq.trans (rr_imul rfl) ?_
    refine Eq.trans (rr_iadd rfl) ?_
    refine ck_it (fun h => rr_iastore rfl h) (fun h => rr_iastore_no rfl h) (fun h2 => ?_)
    refine Eq.trans (rr_aload_n rfl rfl) ?_
    refine Eq.trans (rr_getfr rfl rfl rfl h1) ?_
    refine Eq.trans (rr_iload_n rfl rfl) ?_
    refine Eq.trans (rr_iconst rfl rfl) ?_
    refine ck_it (fun h => rr_iastore rfl h) (fun h => rr_iastore_no rfl h) (fun h3 => ?_)
    rfl
theorem pX7_init_204 (l0 l1 : Int) (ω : am_W) : am_run (147, 0) 204 ([some (.inr (.inr l0)), some (.inl l1)], [], ω) = am_run (147, 0) 180 ([some (.inr (.inr l0)), some (.inl (am_w (l1 + 1)))], [], ω) := by
  refine Eq.trans (rr_iinc (L' := [some (.inr (.inr l0)), some (.inl (am_w (l1 + 1)))]) rfl rfl rfl) ?_
  refine Eq.trans (rr_goto rfl rfl) ?_
  rfl
theorem pX7_no_0 (l0 l1 : Int) (ω : am_W) (h1 : am_is ω l0 (7, 30) = true) : am_run (148, 0) 0 ([some (.inr (.inr l0)), some (.inl l1)], [], ω) = if am_in ω (am_get ω l0.toNat 21) 100 (am_w (-l1)) = true then (some (some (.inl l1), am_put ω (am_get ω l0.toNat 21).toNat (am_w (-l1)).toNat (am_w ((am_get ω (am_get ω l0.toNat 21).toNat (am_w (-l1)).toNat) + 1)))) else none := by
  refine Eq.trans (rr_aload_n rfl rfl) ?_
  refine Eq.trans (rr_getfr rfl rfl rfl h1) ?_
  refine Eq.trans (rr_iload_n rfl rfl) ?_
  refine Eq.trans (rr_ineg rfl) ?_
  refine Eq.trans (rr_dup2 rfl) ?_
  refine ck_it (fun h => rr_iaload rfl rfl h) (fun h => rr_iaload_no rfl rfl h) (fun h2 => ?_)
  refine Eq.trans (rr_iconst rfl rfl) ?_
  refine Eq.trans (rr_iadd rfl) ?_
  refine Eq.trans (rr_iastore rfl h2) ?_
  refine Eq.trans (rr_iload_n rfl rfl) ?_
  exact rr_ireturn rfl rfl
theorem pX7_within_0 (l0 l1 l2 : Int) (ω : am_W) : am_run (149, 0) 0 ([some (.inl l0), some (.inl l1), some (.inl l2)], [], ω) = if l0 < l1 then (some (some (.inl 0), ω)) else (if l2 < l0 then (some (some (.inl 0), ω)) else (some (some (.inl 1), ω))) := by
  refine Eq.trans (rr_iload_n rfl rfl) ?_
  refine Eq.trans (rr_iload_n rfl rfl) ?_
  refine Eq.trans (rr_icmp_lt rfl rfl) (it_cg (fun _ => ?_) (fun _ => ?_))
  · refine Eq.trans (rr_iconst rfl rfl) ?_
    exact rr_ireturn rfl rfl
  · refine Eq.trans (rr_iload_n rfl rfl) ?_
    refine Eq.trans (rr_iload_n rfl rfl) ?_
    refine Eq.trans (rr_icmp_gt rfl rfl) (it_cg (fun _ => ?_) (fun _ => ?_))
    · refine Eq.trans (rr_iconst rfl rfl) ?_
      exact rr_ireturn rfl rfl
    · refine Eq.trans (rr_iconst rfl rfl) ?_
      refine Eq.trans (rr_goto rfl rfl) ?_
      exact rr_ireturn rfl rfl
theorem pX7_has_0 (l0 l1 : Int) (ω : am_W) : am_run (150, 0) 0 ([some (.inl l0), some (.inl l1)], [], ω) = if ¬ (am_and (am_shr l0 l1) 1) = 1 then (some (some (.inl 0), ω)) else (some (some (.inl 1), ω)) := by
  refine Eq.trans (rr_iload_n rfl rfl) ?_
  refine Eq.trans (rr_iload_n rfl rfl) ?_
  refine Eq.trans (rr_ishr rfl) ?_
  refine Eq.trans (rr_iconst rfl rfl) ?_
  refine Eq.trans (rr_iand rfl) ?_
  refine Eq.trans (rr_iconst rfl rfl) ?_
  refine Eq.trans (rr_icmp_ne rfl rfl) (it_cg (fun _ => ?_) (fun _ => ?_))
  · refine Eq.trans (rr_iconst rfl rfl) ?_
    exact rr_ireturn rfl rfl
  · refine Eq.trans (rr_iconst rfl rfl) ?_
    refine Eq.trans (rr_goto rfl rfl) ?_
    exact rr_ireturn rfl rfl
theorem pX7_isShip_0 (l0 l1 : Int) (ω : am_W) (h1 : am_is ω l0 (7, 30) = true) : am_run (151, 0) 0 ([some (.inr (.inr l0)), some (.inl l1)], [], ω) = am_bi (am_run (149, 0) 0 ([some (.inl l1), some (.inl 0), some (.inl (am_w ((am_get ω l0.toNat 6) - 1)))], [], ω)) (fun z1 ω1 => if am_nar 4 z1 = true then (some (some (.inl z1), ω1)) else none) := by
  refine Eq.trans (rr_iload_n rfl rfl) ?_
  refine Eq.trans (rr_iconst rfl rfl) ?_
  refine Eq.trans (rr_aload_n rfl rfl) ?_
  refine Eq.trans (rr_getfi rfl rfl rfl h1) ?_
  refine Eq.trans (rr_iconst rfl rfl) ?_
  refine Eq.trans (rr_isub rfl) ?_
  refine Eq.trans (rr_invS2i (S' := []) (L' := [some (.inl l1), some (.inl 0), some (.inl (am_w ((am_get ω l0.toNat 6) - 1)))]) (m' := (149, 0)) rfl rfl rfl rfl rfl rfl) ?_
  refine bi_cg (fun z1 ω1 => ?_)
  exact ck_it (fun h => rr_ireturn rfl h) (fun h => rr_ireturn_no rfl h) (fun _ => rfl)
theorem pX7_areTwo_0 (l0 l1 l2 : Int) (ω : am_W) (h1 : am_is ω l0 (7, 30) = true) : am_run (152, 0) 0 ([some (.inr (.inr l0)), some (.inl l1), some (.inl l2)], [], ω) = am_bi (am_run (151, 0) 0 ([some (.inr (.inr l0)), some (.inl l1)], [], ω)) (fun z1 ω1 => if z1 = 0 then (some (some (.inl 0), ω1)) else (if am_is ω1 l0 (7, 30) = true then (am_bi (am_run (151, 0) 0 ([some (.inr (.inr l0)), some (.inl l2)], [], ω1)) (fun z2 ω2 => if z2 = 0 then (some (some (.inl 0), ω2)) else (if l1 = l2 then (some (some (.inl 0), ω2)) else (some (some (.inl 1), ω2))))) else none)) := by
  refine Eq.trans (rr_aload_n rfl rfl) ?_
  refine Eq.trans (rr_iload_n rfl rfl) ?_
  refine Eq.trans (rr_invV0i (S' := []) (L' := [some (.inr (.inr l0)), some (.inl l1)]) (m' := (151, 0)) rfl rfl rfl rfl rfl rfl h1) ?_
  refine bi_cg (fun z1 ω1 => ?_)
  refine Eq.trans (rr_if_eq rfl rfl) (it_cg (fun _ => ?_) (fun _ => ?_))
  · refine Eq.trans (rr_iconst rfl rfl) ?_
    exact rr_ireturn rfl rfl
  · refine Eq.trans (rr_aload_n rfl rfl) ?_
    refine Eq.trans (rr_iload_n rfl rfl) ?_
    refine ck_it (fun h => rr_invV0i (S' := []) (L' := [some (.inr (.inr l0)), some (.inl l2)]) (m' := (151, 0)) rfl rfl rfl rfl rfl rfl h) (fun h => rr_invV0_no (S' := []) (L' := [some (.inr (.inr l0)), some (.inl l2)]) (m' := (151, 0)) rfl rfl rfl rfl rfl rfl h) (fun h2 => ?_)
    refine bi_cg (fun z2 ω2 => ?_)
    refine Eq.trans (rr_if_eq rfl rfl) (it_cg (fun _ => ?_) (fun _ => ?_))
    · refine Eq.trans (rr_iconst rfl rfl) ?_
      exact rr_ireturn rfl rfl
    · refine Eq.trans (rr_iload_n rfl rfl) ?_
      refine Eq.trans (rr_iload_n rfl rfl) ?_
      refine Eq.trans (rr_icmp_eq rfl rfl) (it_cg (fun _ => ?_) (fun _ => ?_))
      · refine Eq.trans (rr_iconst rfl rfl) ?_
        exact rr_ireturn rfl rfl
      · refine Eq.trans (rr_iconst rfl rfl) ?_
        refine Eq.trans (rr_goto rfl rfl) ?_
        exact rr_ireturn rfl rfl
theorem pX7_isCircle_0 (l0 l1 : Int) (ω : am_W) (h1 : am_is ω l0 (7, 30) = true) : am_run (153, 0) 0 ([some (.inr (.inr l0)), some (.inl l1)], [], ω) = am_bi (am_run (149, 0) 0 ([some (.inl l1), some (.inl 0), some (.inl (am_w ((am_get ω l0.toNat 3) - 1)))], [], ω)) (fun z1 ω1 => if am_nar 4 z1 = true then (some (some (.inl z1), ω1)) else none) := by
  refine Eq.trans (rr_iload_n rfl rfl) ?_
  refine Eq.trans (rr_iconst rfl rfl) ?_
  refine Eq.trans (rr_aload_n rfl rfl) ?_
  refine Eq.trans (rr_getfi rfl rfl rfl h1) ?_
  refine Eq.trans (rr_iconst rfl rfl) ?_
  refine Eq.trans (rr_isub rfl) ?_
  refine Eq.trans (rr_invS2i (S' := []) (L' := [some (.inl l1), some (.inl 0), some (.inl (am_w ((am_get ω l0.toNat 3) - 1)))]) (m' := (149, 0)) rfl rfl rfl rfl rfl rfl) ?_
  refine bi_cg (fun z1 ω1 => ?_)
  exact ck_it (fun h => rr_ireturn rfl h) (fun h => rr_ireturn_no rfl h) (fun _ => rfl)
theorem pX7_isRow_0 (l0 l1 : Int) (ω : am_W) (h1 : am_is ω l0 (7, 30) = true) : am_run (154, 0) 0 ([some (.inr (.inr l0)), some (.inl l1)], [], ω) = if am_in ω (am_get ω l0.toNat 0) 100 l1 = true then (am_bi (am_run (149, 0) 0 ([some (.inl (am_get ω (am_get ω l0.toNat 0).toNat l1.toNat)), some (.inl 0), some (.inl 4)], [], ω)) (fun z1 ω1 => if am_nar 4 z1 = true then (some (some (.inl z1), ω1)) else none)) else none := by
  refine Eq.trans (rr_aload_n rfl rfl) ?_
  refine Eq.trans (rr_getfr rfl rfl rfl h1) ?_
  refine Eq.trans (rr_iload_n rfl rfl) ?_
  refine ck_it (fun h => rr_iaload rfl rfl h) (fun h => rr_iaload_no rfl rfl h) (fun h2 => ?_)
  refine Eq.trans (rr_iconst rfl rfl) ?_
  refine Eq.trans (rr_iconst rfl rfl) ?_
  refine Eq.trans (rr_invS2i (S' := []) (L' := [some (.inl (am_get ω (am_get ω l0.toNat 0).toNat l1.toNat)), some (.inl 0), some (.inl 4)]) (m' := (149, 0)) rfl rfl rfl rfl rfl rfl) ?_
  refine bi_cg (fun z1 ω1 => ?_)
  exact ck_it (fun h => rr_ireturn rfl h) (fun h => rr_ireturn_no rfl h) (fun _ => rfl)
theorem pX7_row_0 (l0 l1 l2 l3 : Int) (ω : am_W) : am_run (155, 0) 0 ([some (.inr (.inr l0)), some (.inl l1), some (.inl l2), some (.inl l3), none], [], ω) = am_bi (am_run (149, 0) 0 ([some (.inl l1), some (.inl 0), some (.inl 7)], [], ω)) (fun z1 ω1 => if z1 = 0 then (if am_is ω1 l0 (7, 30) = true then (am_bi (am_run (148, 0) 0 ([some (.inr (.inr l0)), some (.inl ((-2)))], [], ω1)) (fun z2 ω2 => some (some (.inl z2), ω2))) else none) else (am_bi (am_run (149, 0) 0 ([some (.inl l2), some (.inl 0), some (.inl 4)], [], ω1)) (fun z3 ω3 => if z3 = 0 then (if am_is ω3 l0 (7, 30) = true then (am_bi (am_run (148, 0) 0 ([some (.inr (.inr l0)), some (.inl ((-2)))], [], ω3)) (fun z4 ω4 => some (some (.inl z4), ω4))) else none) else (am_bi (am_run (149, 0) 0 ([some (.inl l3), some (.inl 0), some (.inl 40)], [], ω3)) (fun z5 ω5 => if ¬ z5 = 0 then (if am_is ω5 l0 (7, 30) = true then (if am_in ω5 (am_get ω5 l0.toNat 0) 100 l1 = true then (if am_in (am_put ω5 (am_get ω5 l0.toNat 0).toNat l1.toNat l2) (am_get (am_put ω5 (am_get ω5 l0.toNat 0).toNat l1.toNat l2) l0.toNat 1) 100 l1 = true then (am_run (155, 0) 53 ([some (.inr (.inr l0)), some (.inl l1), some (.inl l2), some (.inl l3), some (.inl 0)], [], am_put (am_put ω5 (am_get ω5 l0.toNat 0).toNat l1.toNat l2) (am_get (am_put ω5 (am_get ω5 l0.toNat 0).toNat l1.toNat l2) l0.toNat 1).toNat l1.toNat l3)) else none) else none) else none) else (if am_is ω5 l0 (7, 30) = true then (am_bi (am_run (148, 0) 0 ([some (.inr (.inr l0)), some (.inl ((-2)))], [], ω5)) (fun z6 ω6 => some (some (.inl z6), ω6))) else none)))))) := by
  refine Eq.trans (rr_iload_n rfl rfl) ?_
  refine Eq.trans (rr_iconst rfl rfl) ?_
  refine Eq.trans (rr_bipush rfl rfl) ?_
  refine Eq.trans (rr_invS2i (S' := []) (L' := [some (.inl l1), some (.inl 0), some (.inl 7)]) (m' := (149, 0)) rfl rfl rfl rfl rfl rfl) ?_
  refine bi_cg (fun z1 ω1 => ?_)
  refine Eq.trans (rr_if_eq rfl rfl) (it_cg (fun _ => ?_) (fun _ => ?_))
  · refine Eq.trans (rr_aload_n rfl rfl) ?_
    refine Eq.trans (rr_bipush rfl rfl) ?_
    refine ck_it (fun h => rr_invV0i (S' := []) (L' := [some (.inr (.inr l0)), some (.inl ((-2)))]) (m' := (148, 0)) rfl rfl rfl rfl rfl rfl h) (fun h => rr_invV0_no (S' := []) (L' := [some (.inr (.inr l0)), some (.inl ((-2)))]) (m' := (148, 0)) rfl rfl rfl rfl rfl rfl h) (fun h1 => ?_)
    refine bi_cg (fun z2 ω2 => ?_)
    exact rr_ireturn rfl rfl
  · refine Eq.trans (rr_iload_n rfl rfl) ?_
    refine Eq.trans (rr_iconst rfl rfl) ?_
    refine Eq.trans (rr_iconst rfl rfl) ?_
    refine Eq.trans (rr_invS2i (S' := []) (L' := [some (.inl l2), some (.inl 0), some (.inl 4)]) (m' := (149, 0)) rfl rfl rfl rfl rfl rfl) ?_
    refine bi_cg (fun z3 ω3 => ?_)
    refine Eq.trans (rr_if_eq rfl rfl) (it_cg (fun _ => ?_) (fun _ => ?_))
    · refine Eq.trans (rr_aload_n rfl rfl) ?_
      refine Eq.trans (rr_bipush rfl rfl) ?_
      refine ck_it (fun h => rr_invV0i (S' := []) (L' := [some (.inr (.inr l0)), some (.inl ((-2)))]) (m' := (148, 0)) rfl rfl rfl rfl rfl rfl h) (fun h => rr_invV0_no (S' := []) (L' := [some (.inr (.inr l0)), some (.inl ((-2)))]) (m' := (148, 0)) rfl rfl rfl rfl rfl rfl h) (fun h2 => ?_)
      refine bi_cg (fun z4 ω4 => ?_)
      exact rr_ireturn rfl rfl
    · refine Eq.trans (rr_iload_n rfl rfl) ?_
      refine Eq.trans (rr_iconst rfl rfl) ?_
      refine Eq.trans (rr_bipush rfl rfl) ?_
      refine Eq.trans (rr_invS2i (S' := []) (L' := [some (.inl l3), some (.inl 0), some (.inl 40)]) (m' := (149, 0)) rfl rfl rfl rfl rfl rfl) ?_
      refine bi_cg (fun z5 ω5 => ?_)
      refine Eq.trans (rr_if_ne rfl rfl) (it_cg (fun _ => ?_) (fun _ => ?_))
      · refine Eq.trans (rr_aload_n rfl rfl) ?_
        refine ck_it (fun h => rr_getfr rfl rfl rfl h) (fun h => rr_getfield_no rfl rfl h) (fun h3 => ?_)
        refine Eq.trans (rr_iload_n rfl rfl) ?_
        refine Eq.trans (rr_iload_n rfl rfl) ?_
        refine ck_it (fun h => rr_iastore rfl h) (fun h => rr_iastore_no rfl h) (fun h4 => ?_)
        refine Eq.trans (rr_aload_n rfl rfl) ?_
        refine Eq.trans (rr_getfr rfl rfl rfl h3) ?_
        refine Eq.trans (rr_iload_n rfl rfl) ?_
        refine Eq.trans (rr_iload_n rfl rfl) ?_
        refine ck_it (fun h => rr_iastore rfl h) (fun h => rr_iastore_no rfl h) (fun h5 => ?_)
        refine Eq.trans (rr_iconst rfl rfl) ?_
        refine Eq.trans (rr_istore (L' := [some (.inr (.inr l0)), some (.inl l1), some (.inl l2), some (.inl l3), some (.inl 0)]) rfl rfl) ?_
        rfl
      · refine Eq.trans (rr_aload_n rfl rfl) ?_
        refine Eq.trans (rr_bipush rfl rfl) ?_
        refine ck_it (fun h => rr_invV0i (S' := []) (L' := [some (.inr (.inr l0)), some (.inl ((-2)))]) (m' := (148, 0)) rfl rfl rfl rfl rfl rfl h) (fun h => rr_invV0_no (S' := []) (L' := [some (.inr (.inr l0)), some (.inl ((-2)))]) (m' := (148, 0)) rfl rfl rfl rfl rfl rfl h) (fun h6 => ?_)
        refine bi_cg (fun z6 ω6 => ?_)
        exact rr_ireturn rfl rfl
theorem pX7_row_53 (l0 l1 l2 l3 l4 : Int) (ω : am_W) (h1 : am_is ω l0 (7, 30) = true) : am_run (155, 0) 53 ([some (.inr (.inr l0)), some (.inl l1), some (.inl l2), some (.inl l3), some (.inl l4)], [], ω) = if 40 ≤ l4 then (some (some (.inl 1), ω)) else (if am_in ω (am_get ω l0.toNat 2) 101 (am_w ((am_w (40 * l1)) + l4)) = true then (am_run (155, 0) 53 ([some (.inr (.inr l0)), some (.inl l1), some (.inl l2), some (.inl l3), some (.inl (am_w (l4 + 1)))], [], am_put ω (am_get ω l0.toNat 2).toNat (am_w ((am_w (40 * l1)) + l4)).toNat 0)) else none) := by
  refine Eq.trans (rr_iload rfl rfl) ?_
  refine Eq.trans (rr_bipush rfl rfl) ?_
  refine Eq.trans (rr_icmp_ge rfl rfl) (it_cg (fun _ => ?_) (fun _ => ?_))
  · refine Eq.trans (rr_iconst rfl rfl) ?_
    exact rr_ireturn rfl rfl
  · refine Eq.trans (rr_aload_n rfl rfl) ?_
    refine Eq.trans (rr_getfr rfl rfl rfl h1) ?_
    refine Eq.trans (rr_bipush rfl rfl) ?_
    refine Eq.trans (rr_iload_n rfl rfl) ?_
    refine Eq.trans (rr_imul rfl) ?_
    refine Eq.trans (rr_iload rfl rfl) ?_
    refine Eq.trans (rr_iadd rfl) ?_
    refine Eq.trans (rr_lconst rfl) ?_
    refine ck_it (fun h => rr_lastore rfl h) (fun h => rr_lastore_no rfl h) (fun h2 => ?_)
    refine Eq.trans (rr_iinc (L' := [some (.inr (.inr l0)), some (.inl l1), some (.inl l2), some (.inl l3), some (.inl (am_w (l4 + 1)))]) rfl rfl rfl) ?_
    refine Eq.trans (rr_goto rfl rfl) ?_
    rfl
theorem pX7_noRow_0 (l0 l1 : Int) (ω : am_W) : am_run (156, 0) 0 ([some (.inr (.inr l0)), some (.inl l1)], [], ω) = am_bi (am_run (149, 0) 0 ([some (.inl l1), some (.inl 0), some (.inl 7)], [], ω)) (fun z1 ω1 => if ¬ z1 = 0 then (if am_is ω1 l0 (7, 30) = true then (if am_in ω1 (am_get ω1 l0.toNat 0) 100 l1 = true then (if (am_get ω1 (am_get ω1 l0.toNat 0).toNat l1.toNat) ≤ 4 then (if 0 ≤ (am_get ω1 (am_get ω1 l0.toNat 0).toNat l1.toNat) then (some (some (.inl 0), ω1)) else (some (some (.inl ((-4))), ω1))) else (some (some (.inl ((-3))), ω1))) else none) else none) else (some (some (.inl ((-2))), ω1))) := by
  refine Eq.trans (rr_iload_n rfl rfl) ?_
  refine Eq.trans (rr_iconst rfl rfl) ?_
  refine Eq.trans (rr_bipush rfl rfl) ?_
  refine Eq.trans (rr_invS2i (S' := []) (L' := [some (.inl l1), some (.inl 0), some (.inl 7)]) (m' := (149, 0)) rfl rfl rfl rfl rfl rfl) ?_
  refine bi_cg (fun z1 ω1 => ?_)
  refine Eq.trans (rr_if_ne rfl rfl) (it_cg (fun _ => ?_) (fun _ => ?_))
  · refine Eq.trans (rr_aload_n rfl rfl) ?_
    refine ck_it (fun h => rr_getfr rfl rfl rfl h) (fun h => rr_getfield_no rfl rfl h) (fun h1 => ?_)
    refine Eq.trans (rr_iload_n rfl rfl) ?_
    refine ck_it (fun h => rr_iaload rfl rfl h) (fun h => rr_iaload_no rfl rfl h) (fun h2 => ?_)
    refine Eq.trans (rr_iconst rfl rfl) ?_
    refine Eq.trans (rr_icmp_le rfl rfl) (it_cg (fun _ => ?_) (fun _ => ?_))
    · refine Eq.trans (rr_aload_n rfl rfl) ?_
      refine Eq.trans (rr_getfr rfl rfl rfl h1) ?_
      refine Eq.trans (rr_iload_n rfl rfl) ?_
      refine Eq.trans (rr_iaload rfl rfl h2) ?_
      refine Eq.trans (rr_if_ge rfl rfl) (it_cg (fun _ => ?_) (fun _ => ?_))
      · refine Eq.trans (rr_iconst rfl rfl) ?_
        exact rr_ireturn rfl rfl
      · refine Eq.trans (rr_bipush rfl rfl) ?_
        refine Eq.trans (rr_goto rfl rfl) ?_
        exact rr_ireturn rfl rfl
    · refine Eq.trans (rr_bipush rfl rfl) ?_
      exact rr_ireturn rfl rfl
  · refine Eq.trans (rr_bipush rfl rfl) ?_
    exact rr_ireturn rfl rfl
theorem pX7_set_0 (l0 l1 l2 l3 : Int) (ω : am_W) (h1 : am_is ω l0 (7, 30) = true) : am_run (157, 0) 0 ([some (.inr (.inr l0)), some (.inl l1), some (.inl l2), some (.inr (.inl l3)), none, none, none, none], [], ω) = am_bi (am_run (156, 0) 0 ([some (.inr (.inr l0)), some (.inl l1)], [], ω)) (fun z1 ω1 => if 0 ≤ z1 then (if am_is ω1 l0 (7, 30) = true then (if am_in ω1 (am_get ω1 l0.toNat 1) 100 l1 = true then (am_bi (am_run (149, 0) 0 ([some (.inl l2), some (.inl 0), some (.inl (am_w ((am_get ω1 (am_get ω1 l0.toNat 1).toNat l1.toNat) - 1)))], [], ω1)) (fun z2 ω2 => if ¬ z2 = 0 then (if am_is ω2 l0 (7, 30) = true then (if am_in ω2 (am_get ω2 l0.toNat 0) 100 l1 = true then (if ¬ (am_get ω2 (am_get ω2 l0.toNat 0).toNat l1.toNat) = 0 then (am_run (157, 0) 60 ([some (.inr (.inr l0)), some (.inl l1), some (.inl l2), some (.inr (.inl l3)), none, some (.inl z1), some (.inr (.inl l3)), none], [], ω2)) else (am_run (157, 0) 60 ([some (.inr (.inr l0)), some (.inl l1), some (.inl l2), some (.inr (.inl l3)), none, some (.inl z1), some (.inr (.inl ((am_w l3).bmod 256))), none], [], ω2))) else none) else none) else (if am_is ω2 l0 (7, 30) = true then (am_bi (am_run (148, 0) 0 ([some (.inr (.inr l0)), some (.inl ((-2)))], [], ω2)) (fun z3 ω3 => some (some (.inl z3), ω3))) else none))) else none) else none) else (if am_is ω1 l0 (7, 30) = true then (am_bi (am_run (148, 0) 0 ([some (.inr (.inr l0)), some (.inl z1)], [], ω1)) (fun z4 ω4 => some (some (.inl z4), ω4))) else none)) := by
  refine Eq.trans (rr_aload_n rfl rfl) ?_
  refine Eq.trans (rr_iload_n rfl rfl) ?_
  refine Eq.trans (rr_invV0i (S' := []) (L' := [some (.inr (.inr l0)), some (.inl l1)]) (m' := (156, 0)) rfl rfl rfl rfl rfl rfl h1) ?_
  refine bi_cg (fun z1 ω1 => ?_)
  refine Eq.trans (rr_istore (L' := [some (.inr (.inr l0)), some (.inl l1), some (.inl l2), some (.inr (.inl l3)), none, some (.inl z1), none, none]) rfl rfl) ?_
  refine Eq.trans (rr_iload rfl rfl) ?_
  refine Eq.trans (rr_if_ge rfl rfl) (it_cg (fun _ => ?_) (fun _ => ?_))
  · refine Eq.trans (rr_iload_n rfl rfl) ?_
    refine Eq.trans (rr_iconst rfl rfl) ?_
    refine Eq.trans (rr_aload_n rfl rfl) ?_
    refine ck_it (fun h => rr_getfr rfl rfl rfl h) (fun h => rr_getfield_no rfl rfl h) (fun h2 => ?_)
    refine Eq.trans (rr_iload_n rfl rfl) ?_
    refine ck_it (fun h => rr_iaload rfl rfl h) (fun h => rr_iaload_no rfl rfl h) (fun h3 => ?_)
    refine Eq.trans (rr_iconst rfl rfl) ?_
    refine Eq.trans (rr_isub rfl) ?_
    refine Eq.trans (rr_invS2i (S' := []) (L' := [some (.inl l2), some (.inl 0), some (.inl (am_w ((am_get ω1 (am_get ω1 l0.toNat 1).toNat l1.toNat) - 1)))]) (m' := (149, 0)) rfl rfl rfl rfl rfl rfl) ?_
    refine bi_cg (fun z2 ω2 => ?_)
    refine Eq.trans (rr_if_ne rfl rfl) (it_cg (fun _ => ?_) (fun _ => ?_))
    · refine Eq.trans (rr_lload_n rfl rfl) ?_
      refine Eq.trans (rr_lstore (L' := [some (.inr (.inr l0)), some (.inl l1), some (.inl l2), some (.inr (.inl l3)), none, some (.inl z1), some (.inr (.inl l3)), none]) rfl rfl) ?_
      refine Eq.trans (rr_aload_n rfl rfl) ?_
      refine ck_it (fun h => rr_getfr rfl rfl rfl h) (fun h => rr_getfield_no rfl rfl h) (fun h4 => ?_)
      refine Eq.trans (rr_iload_n rfl rfl) ?_
      refine ck_it (fun h => rr_iaload rfl rfl h) (fun h => rr_iaload_no rfl rfl h) (fun h5 => ?_)
      refine Eq.trans (rr_if_ne rfl rfl) (it_cg (fun _ => ?_) (fun _ => ?_))
      · rfl
      · refine Eq.trans (rr_lload_n rfl rfl) ?_
        refine Eq.trans (rr_l2i rfl) ?_
        refine Eq.trans (rr_i2b rfl) ?_
        refine Eq.trans (rr_i2l rfl) ?_
        refine Eq.trans (rr_lstore (L' := [some (.inr (.inr l0)), some (.inl l1), some (.inl l2), some (.inr (.inl l3)), none, some (.inl z1), some (.inr (.inl ((am_w l3).bmod 256))), none]) rfl rfl) ?_
        rfl
    · refine Eq.trans (rr_aload_n rfl rfl) ?_
      refine Eq.trans (rr_bipush rfl rfl) ?_
      refine ck_it (fun h => rr_invV0i (S' := []) (L' := [some (.inr (.inr l0)), some (.inl ((-2)))]) (m' := (148, 0)) rfl rfl rfl rfl rfl rfl h) (fun h => rr_invV0_no (S' := []) (L' := [some (.inr (.inr l0)), some (.inl ((-2)))]) (m' := (148, 0)) rfl rfl rfl rfl rfl rfl h) (fun h6 => ?_)
      refine bi_cg (fun z3 ω3 => ?_)
      exact rr_ireturn rfl rfl
  · refine Eq.trans (rr_aload_n rfl rfl) ?_
    refine Eq.trans (rr_iload rfl rfl) ?_
    refine ck_it (fun h => rr_invV0i (S' := []) (L' := [some (.inr (.inr l0)), some (.inl z1)]) (m' := (148, 0)) rfl rfl rfl rfl rfl rfl h) (fun h => rr_invV0_no (S' := []) (L' := [some (.inr (.inr l0)), some (.inl z1)]) (m' := (148, 0)) rfl rfl rfl rfl rfl rfl h) (fun h7 => ?_)
    refine bi_cg (fun z4 ω4 => ?_)
    exact rr_ireturn rfl rfl
theorem pX7_set_60 (l0 l1 l2 l3 l5 l6 : Int) (ω : am_W) (h1 : am_is ω l0 (7, 30) = true) : am_run (157, 0) 60 ([some (.inr (.inr l0)), some (.inl l1), some (.inl l2), some (.inr (.inl l3)), none, some (.inl l5), some (.inr (.inl l6)), none], [], ω) = if am_in ω (am_get ω l0.toNat 0) 100 l1 = true then (if ¬ (am_get ω (am_get ω l0.toNat 0).toNat l1.toNat) = 1 then (am_run (157, 0) 76 ([some (.inr (.inr l0)), some (.inl l1), some (.inl l2), some (.inr (.inl l3)), none, some (.inl l5), some (.inr (.inl l6)), none], [], ω)) else (am_run (157, 0) 76 ([some (.inr (.inr l0)), some (.inl l1), some (.inl l2), some (.inr (.inl l3)), none, some (.inl l5), some (.inr (.inl ((am_w l3).bmod 65536))), none], [], ω))) else none := by
  refine Eq.trans (rr_aload_n rfl rfl) ?_
  refine Eq.trans (rr_getfr rfl rfl rfl h1) ?_
  refine Eq.trans (rr_iload_n rfl rfl) ?_
  refine ck_it (fun h => rr_iaload rfl rfl h) (fun h => rr_iaload_no rfl rfl h) (fun h2 => ?_)
  refine Eq.trans (rr_iconst rfl rfl) ?_
  refine Eq.trans (rr_icmp_ne rfl rfl) (it_cg (fun _ => ?_) (fun _ => ?_))
  · rfl
  · refine Eq.trans (rr_lload_n rfl rfl) ?_
    refine Eq.trans (rr_l2i rfl) ?_
    refine Eq.trans (rr_i2s rfl) ?_
    refine Eq.trans (rr_i2l rfl) ?_
    refine Eq.trans (rr_lstore (L' := [some (.inr (.inr l0)), some (.inl l1), some (.inl l2), some (.inr (.inl l3)), none, some (.inl l5), some (.inr (.inl ((am_w l3).bmod 65536))), none]) rfl rfl) ?_
    rfl
theorem pX7_set_76 (l0 l1 l2 l3 l5 l6 : Int) (ω : am_W) (h1 : am_is ω l0 (7, 30) = true) : am_run (157, 0) 76 ([some (.inr (.inr l0)), some (.inl l1), some (.inl l2), some (.inr (.inl l3)), none, some (.inl l5), some (.inr (.inl l6)), none], [], ω) = if am_in ω (am_get ω l0.toNat 0) 100 l1 = true then (if ¬ (am_get ω (am_get ω l0.toNat 0).toNat l1.toNat) = 2 then (am_run (157, 0) 91 ([some (.inr (.inr l0)), some (.inl l1), some (.inl l2), some (.inr (.inl l3)), none, some (.inl l5), some (.inr (.inl l6)), none], [], ω)) else (am_run (157, 0) 91 ([some (.inr (.inr l0)), some (.inl l1), some (.inl l2), some (.inr (.inl l3)), none, some (.inl l5), some (.inr (.inl (am_w l3))), none], [], ω))) else none := by
  refine Eq.trans (rr_aload_n rfl rfl) ?_
  refine Eq.trans (rr_getfr rfl rfl rfl h1) ?_
  refine Eq.trans (rr_iload_n rfl rfl) ?_
  refine ck_it (fun h => rr_iaload rfl rfl h) (fun h => rr_iaload_no rfl rfl h) (fun h2 => ?_)
  refine Eq.trans (rr_iconst rfl rfl) ?_
  refine Eq.trans (rr_icmp_ne rfl rfl) (it_cg (fun _ => ?_) (fun _ => ?_))
  · rfl
  · refine Eq.trans (rr_lload_n rfl rfl) ?_
    refine Eq.trans (rr_l2i rfl) ?_
    refine Eq.trans (rr_i2l rfl) ?_
    refine Eq.trans (rr_lstore (L' := [some (.inr (.inr l0)), some (.inl l1), some (.inl l2), some (.inr (.inl l3)), none, some (.inl l5), some (.inr (.inl (am_w l3))), none]) rfl rfl) ?_
    rfl
theorem pX7_set_91 (l0 l1 l2 l3 l5 l6 : Int) (ω : am_W) (h1 : am_is ω l0 (7, 30) = true) : am_run (157, 0) 91 ([some (.inr (.inr l0)), some (.inl l1), some (.inl l2), some (.inr (.inl l3)), none, some (.inl l5), some (.inr (.inl l6)), none], [], ω) = if am_in ω (am_get ω l0.toNat 0) 100 l1 = true then (if ¬ (am_get ω (am_get ω l0.toNat 0).toNat l1.toNat) = 4 then (if am_in ω (am_get ω l0.toNat 2) 101 (am_w ((am_w (40 * l1)) + l2)) = true then (some (some (.inl 1), am_put ω (am_get ω l0.toNat 2).toNat (am_w ((am_w (40 * l1)) + l2)).toNat l6)) else none) else (if (am_cmp l3 0) = 0 then (if am_in ω (am_get ω l0.toNat 2) 101 (am_w ((am_w (40 * l1)) + l2)) = true then (some (some (.inl 1), am_put ω (am_get ω l0.toNat 2).toNat (am_w ((am_w (40 * l1)) + l2)).toNat 0)) else none) else (if am_in ω (am_get ω l0.toNat 2) 101 (am_w ((am_w (40 * l1)) + l2)) = true then (some (some (.inl 1), am_put ω (am_get ω l0.toNat 2).toNat (am_w ((am_w (40 * l1)) + l2)).toNat 1)) else none))) else none := by
  refine Eq.trans (rr_aload_n rfl rfl) ?_
  refine Eq.trans (rr_getfr rfl rfl rfl h1) ?_
  refine Eq.trans (rr_iload_n rfl rfl) ?_
  refine ck_it (fun h => rr_iaload rfl rfl h) (fun h => rr_iaload_no rfl rfl h) (fun h2 => ?_)
  refine Eq.trans (rr_iconst rfl rfl) ?_
  refine Eq.trans (rr_icmp_ne rfl rfl) (it_cg (fun _ => ?_) (fun _ => ?_))
  · refine Eq.trans (rr_aload_n rfl rfl) ?_
    refine Eq.trans (rr_getfr rfl rfl rfl h1) ?_
    refine Eq.trans (rr_bipush rfl rfl) ?_
    refine Eq.trans (rr_iload_n rfl rfl) ?_
    refine Eq.trans (rr_imul rfl) ?_
    refine Eq.trans (rr_iload_n rfl rfl) ?_
    refine Eq.trans (rr_iadd rfl) ?_
    refine Eq.trans (rr_lload rfl rfl) ?_
    refine ck_it (fun h => rr_lastore rfl h) (fun h => rr_lastore_no rfl h) (fun h3 => ?_)
    refine Eq.trans (rr_iconst rfl rfl) ?_
    exact rr_ireturn rfl rfl
  · refine Eq.trans (rr_lload_n rfl rfl) ?_
    refine Eq.trans (rr_lconst rfl) ?_
    refine Eq.trans (rr_lcmp rfl) ?_
    refine Eq.trans (rr_if_eq rfl rfl) (it_cg (fun _ => ?_) (fun _ => ?_))
    · refine Eq.trans (rr_lconst rfl) ?_
      refine Eq.trans (rr_lstore (L' := [some (.inr (.inr l0)), some (.inl l1), some (.inl l2), some (.inr (.inl l3)), none, some (.inl l5), some (.inr (.inl 0)), none]) rfl rfl) ?_
      refine Eq.trans (rr_aload_n rfl rfl) ?_
      refine Eq.trans (rr_getfr rfl rfl rfl h1) ?_
      refine Eq.trans (rr_bipush rfl rfl) ?_
      refine Eq.trans (rr_iload_n rfl rfl) ?_
      refine Eq.trans (rr_imul rfl) ?_
      refine Eq.trans (rr_iload_n rfl rfl) ?_
      refine Eq.trans (rr_iadd rfl) ?_
      refine Eq.trans (rr_lload rfl rfl) ?_
      refine ck_it (fun h => rr_lastore rfl h) (fun h => rr_lastore_no rfl h) (fun h4 => ?_)
      refine Eq.trans (rr_iconst rfl rfl) ?_
      exact rr_ireturn rfl rfl
    · refine Eq.trans (rr_lconst rfl) ?_
      refine Eq.trans (rr_goto rfl rfl) ?_
      refine Eq.trans (rr_lstore (L' := [some (.inr (.inr l0)), some (.inl l1), some (.inl l2), some (.inr (.inl l3)), none, some (.inl l5), some (.inr (.inl 1)), none]) rfl rfl) ?_
      refine Eq.trans (rr_aload_n rfl rfl) ?_
      refine Eq.trans (rr_getfr rfl rfl rfl h1) ?_
      refine Eq.trans (rr_bipush rfl rfl) ?_
      refine Eq.trans (rr_iload_n rfl rfl) ?_
      refine Eq.trans (rr_imul rfl) ?_
      refine Eq.trans (rr_iload_n rfl rfl) ?_
      refine Eq.trans (rr_iadd rfl) ?_
      refine Eq.trans (rr_lload rfl rfl) ?_
      refine ck_it (fun h => rr_lastore rfl h) (fun h => rr_lastore_no rfl h) (fun h5 => ?_)
      refine Eq.trans (rr_iconst rfl rfl) ?_
      exact rr_ireturn rfl rfl
theorem pX7_copy_0 (l0 l1 l2 l3 l4 l5 : Int) (ω : am_W) : am_run (158, 0) 0 ([some (.inr (.inr l0)), some (.inl l1), some (.inl l2), some (.inl l3), some (.inl l4), some (.inl l5), none], [], ω) = am_bi (am_run (149, 0) 0 ([some (.inl l1), some (.inl 0), some (.inl 7)], [], ω)) (fun z1 ω1 => if z1 = 0 then (if am_is ω1 l0 (7, 30) = true then (am_bi (am_run (148, 0) 0 ([some (.inr (.inr l0)), some (.inl ((-2)))], [], ω1)) (fun z2 ω2 => some (some (.inl z2), ω2))) else none) else (am_bi (am_run (149, 0) 0 ([some (.inl l2), some (.inl 0), some (.inl 7)], [], ω1)) (fun z3 ω3 => if ¬ z3 = 0 then (if am_is ω3 l0 (7, 30) = true then (if am_in ω3 (am_get ω3 l0.toNat 0) 100 l1 = true then (if 4 < (am_get ω3 (am_get ω3 l0.toNat 0).toNat l1.toNat) then (am_bi (am_run (148, 0) 0 ([some (.inr (.inr l0)), some (.inl ((-3)))], [], ω3)) (fun z4 ω4 => some (some (.inl z4), ω4))) else (if am_in ω3 (am_get ω3 l0.toNat 0) 100 l2 = true then (if 4 < (am_get ω3 (am_get ω3 l0.toNat 0).toNat l2.toNat) then (am_bi (am_run (148, 0) 0 ([some (.inr (.inr l0)), some (.inl ((-3)))], [], ω3)) (fun z5 ω5 => some (some (.inl z5), ω5))) else (am_bi (am_run (154, 0) 0 ([some (.inr (.inr l0)), some (.inl l1)], [], ω3)) (fun z6 ω6 => if z6 = 0 then (am_run (158, 0) 85 ([some (.inr (.inr l0)), some (.inl l1), some (.inl l2), some (.inl l3), some (.inl l4), some (.inl l5), none], [], ω6)) else (if am_is ω6 l0 (7, 30) = true then (am_bi (am_run (154, 0) 0 ([some (.inr (.inr l0)), some (.inl l2)], [], ω6)) (fun z7 ω7 => if z7 = 0 then (am_run (158, 0) 85 ([some (.inr (.inr l0)), some (.inl l1), some (.inl l2), some (.inl l3), some (.inl l4), some (.inl l5), none], [], ω7)) else (if am_is ω7 l0 (7, 30) = true then (if am_in ω7 (am_get ω7 l0.toNat 0) 100 l1 = true then (if am_in ω7 (am_get ω7 l0.toNat 0) 100 l2 = true then (if (am_get ω7 (am_get ω7 l0.toNat 0).toNat l1.toNat) = (am_get ω7 (am_get ω7 l0.toNat 0).toNat l2.toNat) then (am_run (158, 0) 85 ([some (.inr (.inr l0)), some (.inl l1), some (.inl l2), some (.inl l3), some (.inl l4), some (.inl l5), none], [], ω7)) else (am_bi (am_run (148, 0) 0 ([some (.inr (.inr l0)), some (.inl ((-3)))], [], ω7)) (fun z8 ω8 => some (some (.inl z8), ω8)))) else none) else none) else none))) else none)))) else none)) else none) else none) else (if am_is ω3 l0 (7, 30) = true then (am_bi (am_run (148, 0) 0 ([some (.inr (.inr l0)), some (.inl ((-2)))], [], ω3)) (fun z9 ω9 => some (some (.inl z9), ω9))) else none)))) := by
  refine Eq.trans (rr_iload_n rfl rfl) ?_
  refine Eq.trans (rr_iconst rfl rfl) ?_
  refine Eq.trans (rr_bipush rfl rfl) ?_
  refine Eq.trans (rr_invS2i (S' := []) (L' := [some (.inl l1), some (.inl 0), some (.inl 7)]) (m' := (149, 0)) rfl rfl rfl rfl rfl rfl) ?_
  refine bi_cg (fun z1 ω1 => ?_)
  refine Eq.trans (rr_if_eq rfl rfl) (it_cg (fun _ => ?_) (fun _ => ?_))
  · refine Eq.trans (rr_aload_n rfl rfl) ?_
    refine Eq.trans (rr_bipush rfl rfl) ?_
    refine ck_it (fun h => rr_invV0i (S' := []) (L' := [some (.inr (.inr l0)), some (.inl ((-2)))]) (m' := (148, 0)) rfl rfl rfl rfl rfl rfl h) (fun h => rr_invV0_no (S' := []) (L' := [some (.inr (.inr l0)), some (.inl ((-2)))]) (m' := (148, 0)) rfl rfl rfl rfl rfl rfl h) (fun h1 => ?_)
    refine bi_cg (fun z2 ω2 => ?_)
    exact rr_ireturn rfl rfl
  · refine Eq.trans (rr_iload_n rfl rfl) ?_
    refine Eq.trans (rr_iconst rfl rfl) ?_
    refine Eq.trans (rr_bipush rfl rfl) ?_
    refine Eq.trans (rr_invS2i (S' := []) (L' := [some (.inl l2), some (.inl 0), some (.inl 7)]) (m' := (149, 0)) rfl rfl rfl rfl rfl rfl) ?_
    refine bi_cg (fun z3 ω3 => ?_)
    refine Eq.trans (rr_if_ne rfl rfl) (it_cg (fun _ => ?_) (fun _ => ?_))
    · refine Eq.trans (rr_aload_n rfl rfl) ?_
      refine ck_it (fun h => rr_getfr rfl rfl rfl h) (fun h => rr_getfield_no rfl rfl h) (fun h2 => ?_)
      refine Eq.trans (rr_iload_n rfl rfl) ?_
      refine ck_it (fun h => rr_iaload rfl rfl h) (fun h => rr_iaload_no rfl rfl h) (fun h3 => ?_)
      refine Eq.trans (rr_iconst rfl rfl) ?_
      refine Eq.trans (rr_icmp_gt rfl rfl) (it_cg (fun _ => ?_) (fun _ => ?_))
      · refine Eq.trans (rr_aload_n rfl rfl) ?_
        refine Eq.trans (rr_bipush rfl rfl) ?_
        refine Eq.trans (rr_invV0i (S' := []) (L' := [some (.inr (.inr l0)), some (.inl ((-3)))]) (m' := (148, 0)) rfl rfl rfl rfl rfl rfl h2) ?_
        refine bi_cg (fun z4 ω4 => ?_)
        exact rr_ireturn rfl rfl
      · refine Eq.trans (rr_aload_n rfl rfl) ?_
        refine Eq.trans (rr_getfr rfl rfl rfl h2) ?_
        refine Eq.trans (rr_iload_n rfl rfl) ?_
        refine ck_it (fun h => rr_iaload rfl rfl h) (fun h => rr_iaload_no rfl rfl h) (fun h4 => ?_)
        refine Eq.trans (rr_iconst rfl rfl) ?_
        refine Eq.trans (rr_icmp_gt rfl rfl) (it_cg (fun _ => ?_) (fun _ => ?_))
        · refine Eq.trans (rr_aload_n rfl rfl) ?_
          refine Eq.trans (rr_bipush rfl rfl) ?_
          refine Eq.trans (rr_invV0i (S' := []) (L' := [some (.inr (.inr l0)), some (.inl ((-3)))]) (m' := (148, 0)) rfl rfl rfl rfl rfl rfl h2) ?_
          refine bi_cg (fun z5 ω5 => ?_)
          exact rr_ireturn rfl rfl
        · refine Eq.trans (rr_aload_n rfl rfl) ?_
          refine Eq.trans (rr_iload_n rfl rfl) ?_
          refine Eq.trans (rr_invV0i (S' := []) (L' := [some (.inr (.inr l0)), some (.inl l1)]) (m' := (154, 0)) rfl rfl rfl rfl rfl rfl h2) ?_
          refine bi_cg (fun z6 ω6 => ?_)
          refine Eq.trans (rr_if_eq rfl rfl) (it_cg (fun _ => ?_) (fun _ => ?_))
          · rfl
          · refine Eq.trans (rr_aload_n rfl rfl) ?_
            refine Eq.trans (rr_iload_n rfl rfl) ?_
            refine ck_it (fun h => rr_invV0i (S' := []) (L' := [some (.inr (.inr l0)), some (.inl l2)]) (m' := (154, 0)) rfl rfl rfl rfl rfl rfl h) (fun h => rr_invV0_no (S' := []) (L' := [some (.inr (.inr l0)), some (.inl l2)]) (m' := (154, 0)) rfl rfl rfl rfl rfl rfl h) (fun h5 => ?_)
            refine bi_cg (fun z7 ω7 => ?_)
            refine Eq.trans (rr_if_eq rfl rfl) (it_cg (fun _ => ?_) (fun _ => ?_))
            · rfl
            · refine Eq.trans (rr_aload_n rfl rfl) ?_
              refine ck_it (fun h => rr_getfr rfl rfl rfl h) (fun h => rr_getfield_no rfl rfl h) (fun h6 => ?_)
              refine Eq.trans (rr_iload_n rfl rfl) ?_
              refine ck_it (fun h => rr_iaload rfl rfl h) (fun h => rr_iaload_no rfl rfl h) (fun h7 => ?_)
              refine Eq.trans (rr_aload_n rfl rfl) ?_
              refine Eq.trans (rr_getfr rfl rfl rfl h6) ?_
              refine Eq.trans (rr_iload_n rfl rfl) ?_
              refine ck_it (fun h => rr_iaload rfl rfl h) (fun h => rr_iaload_no rfl rfl h) (fun h8 => ?_)
              refine Eq.trans (rr_icmp_eq rfl rfl) (it_cg (fun _ => ?_) (fun _ => ?_))
              · rfl
              · refine Eq.trans (rr_aload_n rfl rfl) ?_
                refine Eq.trans (rr_bipush rfl rfl) ?_
                refine Eq.trans (rr_invV0i (S' := []) (L' := [some (.inr (.inr l0)), some (.inl ((-3)))]) (m' := (148, 0)) rfl rfl rfl rfl rfl rfl h6) ?_
                refine bi_cg (fun z8 ω8 => ?_)
                exact rr_ireturn rfl rfl
    · refine Eq.trans (rr_aload_n rfl rfl) ?_
      refine Eq.trans (rr_bipush rfl rfl) ?_
      refine ck_it (fun h => rr_invV0i (S' := []) (L' := [some (.inr (.inr l0)), some (.inl ((-2)))]) (m' := (148, 0)) rfl rfl rfl rfl rfl rfl h) (fun h => rr_invV0_no (S' := []) (L' := [some (.inr (.inr l0)), some (.inl ((-2)))]) (m' := (148, 0)) rfl rfl rfl rfl rfl rfl h) (fun h9 => ?_)
      refine bi_cg (fun z9 ω9 => ?_)
      exact rr_ireturn rfl rfl
theorem pX7_copy_85 (l0 l1 l2 l3 l4 l5 : Int) (o6 : Option am_V) (ω : am_W) (h1 : am_is ω l0 (7, 30) = true) : am_run (158, 0) 85 ([some (.inr (.inr l0)), some (.inl l1), some (.inl l2), some (.inl l3), some (.inl l4), some (.inl l5), o6], [], ω) = if am_in ω (am_get ω l0.toNat 0) 100 l1 = true then (if (am_get ω (am_get ω l0.toNat 0).toNat l1.toNat) < 0 then (am_bi (am_run (148, 0) 0 ([some (.inr (.inr l0)), some (.inl ((-4)))], [], ω)) (fun z1 ω1 => some (some (.inl z1), ω1))) else (if am_in ω (am_get ω l0.toNat 0) 100 l2 = true then (if 0 ≤ (am_get ω (am_get ω l0.toNat 0).toNat l2.toNat) then (if l5 < 0 then (am_bi (am_run (148, 0) 0 ([some (.inr (.inr l0)), some (.inl ((-2)))], [], ω)) (fun z2 ω2 => some (some (.inl z2), ω2))) else (if l3 < 0 then (am_bi (am_run (148, 0) 0 ([some (.inr (.inr l0)), some (.inl ((-2)))], [], ω)) (fun z3 ω3 => some (some (.inl z3), ω3))) else (if l4 < 0 then (am_bi (am_run (148, 0) 0 ([some (.inr (.inr l0)), some (.inl ((-2)))], [], ω)) (fun z4 ω4 => some (some (.inl z4), ω4))) else (if am_in ω (am_get ω l0.toNat 1) 100 l1 = true then (if 0 < (am_cmp (am_wl (l3 + l5)) (am_get ω (am_get ω l0.toNat 1).toNat l1.toNat)) then (am_bi (am_run (148, 0) 0 ([some (.inr (.inr l0)), some (.inl ((-2)))], [], ω)) (fun z5 ω5 => some (some (.inl z5), ω5))) else (if am_in ω (am_get ω l0.toNat 1) 100 l2 = true then (if (am_cmp (am_wl (l4 + l5)) (am_get ω (am_get ω l0.toNat 1).toNat l2.toNat)) ≤ 0 then (if ¬ l1 = l2 then (am_run (158, 0) 229 ([some (.inr (.inr l0)), some (.inl l1), some (.inl l2), some (.inl l3), some (.inl l4), some (.inl l5), some (.inl 0)], [], ω)) else (if l4 ≤ l3 then (am_run (158, 0) 229 ([some (.inr (.inr l0)), some (.inl l1), some (.inl l2), some (.inl l3), some (.inl l4), some (.inl l5), some (.inl 0)], [], ω)) else (am_run (158, 0) 183 ([some (.inr (.inr l0)), some (.inl l1), some (.inl l2), some (.inl l3), some (.inl l4), some (.inl l5), some (.inl (am_w (l5 - 1)))], [], ω)))) else (am_bi (am_run (148, 0) 0 ([some (.inr (.inr l0)), some (.inl ((-2)))], [], ω)) (fun z6 ω6 => some (some (.inl z6), ω6)))) else none)) else none)))) else (am_bi (am_run (148, 0) 0 ([some (.inr (.inr l0)), some (.inl ((-4)))], [], ω)) (fun z7 ω7 => some (some (.inl z7), ω7)))) else none)) else none := by
  refine Eq.trans (rr_aload_n rfl rfl) ?_
  refine Eq.trans (rr_getfr rfl rfl rfl h1) ?_
  refine Eq.trans (rr_iload_n rfl rfl) ?_
  refine ck_it (fun h => rr_iaload rfl rfl h) (fun h => rr_iaload_no rfl rfl h) (fun h2 => ?_)
  refine Eq.trans (rr_if_lt rfl rfl) (it_cg (fun _ => ?_) (fun _ => ?_))
  · refine Eq.trans (rr_aload_n rfl rfl) ?_
    refine Eq.trans (rr_bipush rfl rfl) ?_
    refine Eq.trans (rr_invV0i (S' := []) (L' := [some (.inr (.inr l0)), some (.inl ((-4)))]) (m' := (148, 0)) rfl rfl rfl rfl rfl rfl h1) ?_
    refine bi_cg (fun z1 ω1 => ?_)
    exact rr_ireturn rfl rfl
  · refine Eq.trans (rr_aload_n rfl rfl) ?_
    refine Eq.trans (rr_getfr rfl rfl rfl h1) ?_
    refine Eq.trans (rr_iload_n rfl rfl) ?_
    refine ck_it (fun h => rr_iaload rfl rfl h) (fun h => rr_iaload_no rfl rfl h) (fun h3 => ?_)
    refine Eq.trans (rr_if_ge rfl rfl) (it_cg (fun _ => ?_) (fun _ => ?_))
    · refine Eq.trans (rr_iload rfl rfl) ?_
      refine Eq.trans (rr_if_lt rfl rfl) (it_cg (fun _ => ?_) (fun _ => ?_))
      · refine Eq.trans (rr_aload_n rfl rfl) ?_
        refine Eq.trans (rr_bipush rfl rfl) ?_
        refine Eq.trans (rr_invV0i (S' := []) (L' := [some (.inr (.inr l0)), some (.inl ((-2)))]) (m' := (148, 0)) rfl rfl rfl rfl rfl rfl h1) ?_
        refine bi_cg (fun z2 ω2 => ?_)
        exact rr_ireturn rfl rfl
      · refine Eq.trans (rr_iload_n rfl rfl) ?_
        refine Eq.trans (rr_if_lt rfl rfl) (it_cg (fun _ => ?_) (fun _ => ?_))
        · refine Eq.trans (rr_aload_n rfl rfl) ?_
          refine Eq.trans (rr_bipush rfl rfl) ?_
          refine Eq.trans (rr_invV0i (S' := []) (L' := [some (.inr (.inr l0)), some (.inl ((-2)))]) (m' := (148, 0)) rfl rfl rfl rfl rfl rfl h1) ?_
          refine bi_cg (fun z3 ω3 => ?_)
          exact rr_ireturn rfl rfl
        · refine Eq.trans (rr_iload rfl rfl) ?_
          refine Eq.trans (rr_if_lt rfl rfl) (it_cg (fun _ => ?_) (fun _ => ?_))
          · refine Eq.trans (rr_aload_n rfl rfl) ?_
            refine Eq.trans (rr_bipush rfl rfl) ?_
            refine Eq.trans (rr_invV0i (S' := []) (L' := [some (.inr (.inr l0)), some (.inl ((-2)))]) (m' := (148, 0)) rfl rfl rfl rfl rfl rfl h1) ?_
            refine bi_cg (fun z4 ω4 => ?_)
            exact rr_ireturn rfl rfl
          · refine Eq.trans (rr_iload_n rfl rfl) ?_
            refine Eq.trans (rr_i2l rfl) ?_
            refine Eq.trans (rr_iload rfl rfl) ?_
            refine Eq.trans (rr_i2l rfl) ?_
            refine Eq.trans (rr_ladd rfl) ?_
            refine Eq.trans (rr_aload_n rfl rfl) ?_
            refine Eq.trans (rr_getfr rfl rfl rfl h1) ?_
            refine Eq.trans (rr_iload_n rfl rfl) ?_
            refine ck_it (fun h => rr_iaload rfl rfl h) (fun h => rr_iaload_no rfl rfl h) (fun h4 => ?_)
            refine Eq.trans (rr_i2l rfl) ?_
            refine Eq.trans (rr_lcmp rfl) ?_
            refine Eq.trans (rr_if_gt rfl rfl) (it_cg (fun _ => ?_) (fun _ => ?_))
            · refine Eq.trans (rr_aload_n rfl rfl) ?_
              refine Eq.trans (rr_bipush rfl rfl) ?_
              refine Eq.trans (rr_invV0i (S' := []) (L' := [some (.inr (.inr l0)), some (.inl ((-2)))]) (m' := (148, 0)) rfl rfl rfl rfl rfl rfl h1) ?_
              refine bi_cg (fun z5 ω5 => ?_)
              exact rr_ireturn rfl rfl
            · refine Eq.trans (rr_iload rfl rfl) ?_
              refine Eq.trans (rr_i2l rfl) ?_
              refine Eq.trans (rr_iload rfl rfl) ?_
              refine Eq.trans (rr_i2l rfl) ?_
              refine Eq.trans (rr_ladd rfl) ?_
              refine Eq.trans (rr_aload_n rfl rfl) ?_
              refine Eq.trans (rr_getfr rfl rfl rfl h1) ?_
              refine Eq.trans (rr_iload_n rfl rfl) ?_
              refine ck_it (fun h => rr_iaload rfl rfl h) (fun h => rr_iaload_no rfl rfl h) (fun h5 => ?_)
              refine Eq.trans (rr_i2l rfl) ?_
              refine Eq.trans (rr_lcmp rfl) ?_
              refine Eq.trans (rr_if_le rfl rfl) (it_cg (fun _ => ?_) (fun _ => ?_))
              · refine Eq.trans (rr_iload_n rfl rfl) ?_
                refine Eq.trans (rr_iload_n rfl rfl) ?_
                refine Eq.trans (rr_icmp_ne rfl rfl) (it_cg (fun _ => ?_) (fun _ => ?_))
                · refine Eq.trans (rr_iconst rfl rfl) ?_
                  refine Eq.trans (rr_istore (L' := [some (.inr (.inr l0)), some (.inl l1), some (.inl l2), some (.inl l3), some (.inl l4), some (.inl l5), some (.inl 0)]) rfl rfl) ?_
                  rfl
                · refine Eq.trans (rr_iload_n rfl rfl) ?_
                  refine Eq.trans (rr_iload rfl rfl) ?_
                  refine Eq.trans (rr_icmp_ge rfl rfl) (it_cg (fun _ => ?_) (fun _ => ?_))
                  · refine Eq.trans (rr_iconst rfl rfl) ?_
                    refine Eq.trans (rr_istore (L' := [some (.inr (.inr l0)), some (.inl l1), some (.inl l2), some (.inl l3), some (.inl l4), some (.inl l5), some (.inl 0)]) rfl rfl) ?_
                    rfl
                  · refine Eq.trans (rr_iload rfl rfl) ?_
                    refine Eq.trans (rr_iconst rfl rfl) ?_
                    refine Eq.trans (rr_isub rfl) ?_
                    refine Eq.trans (rr_istore (L' := [some (.inr (.inr l0)), some (.inl l1), some (.inl l2), some (.inl l3), some (.inl l4), some (.inl l5), some (.inl (am_w (l5 - 1)))]) rfl rfl) ?_
                    rfl
              · refine Eq.trans (rr_aload_n rfl rfl) ?_
                refine Eq.trans (rr_bipush rfl rfl) ?_
                refine Eq.trans (rr_invV0i (S' := []) (L' := [some (.inr (.inr l0)), some (.inl ((-2)))]) (m' := (148, 0)) rfl rfl rfl rfl rfl rfl h1) ?_
                refine bi_cg (fun z6 ω6 => ?_)
                exact rr_ireturn rfl rfl
    · refine Eq.trans (rr_aload_n rfl rfl) ?_
      refine Eq.trans (rr_bipush rfl rfl) ?_
      refine Eq.trans (rr_invV0i (S' := []) (L' := [some (.inr (.inr l0)), some (.inl ((-4)))]) (m' := (148, 0)) rfl rfl rfl rfl rfl rfl h1) ?_
      refine bi_cg (fun z7 ω7 => ?_)
      exact rr_ireturn rfl rfl
theorem pX7_copy_183 (l0 l1 l2 l3 l4 l5 l6 : Int) (ω : am_W) (h1 : am_is ω l0 (7, 30) = true) : am_run (158, 0) 183 ([some (.inr (.inr l0)), some (.inl l1), some (.inl l2), some (.inl l3), some (.inl l4), some (.inl l5), some (.inl l6)], [], ω) = if l6 < 0 then (some (some (.inl l5), ω)) else (if am_in ω (am_get ω l0.toNat 2) 101 (am_w ((am_w ((am_w (40 * l1)) + l3)) + l6)) = true then (if am_in ω (am_get ω l0.toNat 2) 101 (am_w ((am_w ((am_w (40 * l2)) + l4)) + l6)) = true then (am_run (158, 0) 183 ([some (.inr (.inr l0)), some (.inl l1), some (.inl l2), some (.inl l3), some (.inl l4), some (.inl l5), some (.inl (am_w (l6 + (-1))))], [], am_put ω (am_get ω l0.toNat 2).toNat (am_w ((am_w ((am_w (40 * l2)) + l4)) + l6)).toNat (am_get ω (am_get ω l0.toNat 2).toNat (am_w ((am_w ((am_w (40 * l1)) + l3)) + l6)).toNat))) else none) else none) := by
  refine Eq.trans (rr_iload rfl rfl) ?_
  refine Eq.trans (rr_if_lt rfl rfl) (it_cg (fun _ => ?_) (fun _ => ?_))
  · refine Eq.trans (rr_goto rfl rfl) ?_
    refine Eq.trans (rr_iload rfl rfl) ?_
    exact rr_ireturn rfl rfl
  · refine Eq.trans (rr_aload_n rfl rfl) ?_
    refine Eq.trans (rr_getfr rfl rfl rfl h1) ?_
    refine Eq.trans (rr_bipush rfl rfl) ?_
    refine Eq.trans (rr_iload_n rfl rfl) ?_
    refine Eq.trans (rr_imul rfl) ?_
    refine Eq.trans (rr_iload rfl rfl) ?_
    refine Eq.trans (rr_iadd rfl) ?_
    refine Eq.trans (rr_iload rfl rfl) ?_
    refine Eq.trans (rr_iadd rfl) ?_
    refine Eq.trans (rr_aload_n rfl rfl) ?_
    refine Eq.trans (rr_getfr rfl rfl rfl h1) ?_
    refine Eq.trans (rr_bipush rfl rfl) ?_
    refine Eq.trans (rr_iload_n rfl rfl) ?_
    refine Eq.trans (rr_imul rfl) ?_
    refine Eq.trans (rr_iload_n rfl rfl) ?_
    refine Eq.trans (rr_iadd rfl) ?_
    refine Eq.trans (rr_iload rfl rfl) ?_
    refine Eq.trans (rr_iadd rfl) ?_
    refine ck_it (fun h => rr_laload rfl h) (fun h => rr_laload_no rfl h) (fun h2 => ?_)
    refine ck_it (fun h => rr_lastore rfl h) (fun h => rr_lastore_no rfl h) (fun h3 => ?_)
    refine Eq.trans (rr_iinc (L' := [some (.inr (.inr l0)), some (.inl l1), some (.inl l2), some (.inl l3), some (.inl l4), some (.inl l5), some (.inl (am_w (l6 + (-1))))]) rfl rfl rfl) ?_
    refine Eq.trans (rr_goto rfl rfl) ?_
    rfl
theorem pX7_copy_229 (l0 l1 l2 l3 l4 l5 l6 : Int) (ω : am_W) (h1 : am_is ω l0 (7, 30) = true) : am_run (158, 0) 229 ([some (.inr (.inr l0)), some (.inl l1), some (.inl l2), some (.inl l3), some (.inl l4), some (.inl l5), some (.inl l6)], [], ω) = if l5 ≤ l6 then (some (some (.inl l5), ω)) else (if am_in ω (am_get ω l0.toNat 2) 101 (am_w ((am_w ((am_w (40 * l1)) + l3)) + l6)) = true then (if am_in ω (am_get ω l0.toNat 2) 101 (am_w ((am_w ((am_w (40 * l2)) + l4)) + l6)) = true then (am_run (158, 0) 229 ([some (.inr (.inr l0)), some (.inl l1), some (.inl l2), some (.inl l3), some (.inl l4), some (.inl l5), some (.inl (am_w (l6 + 1)))], [], am_put ω (am_get ω l0.toNat 2).toNat (am_w ((am_w ((am_w (40 * l2)) + l4)) + l6)).toNat (am_get ω (am_get ω l0.toNat 2).toNat (am_w ((am_w ((am_w (40 * l1)) + l3)) + l6)).toNat))) else none) else none) := by
  refine Eq.trans (rr_iload rfl rfl) ?_
  refine Eq.trans (rr_iload rfl rfl) ?_
  refine Eq.trans (rr_icmp_ge rfl rfl) (it_cg (fun _ => ?_) (fun _ => ?_))
  · refine Eq.trans (rr_iload rfl rfl) ?_
    exact rr_ireturn rfl rfl
  · refine Eq.trans (rr_aload_n rfl rfl) ?_
    refine Eq.trans (rr_getfr rfl rfl rfl h1) ?_
    refine Eq.trans (rr_bipush rfl rfl) ?_
    refine Eq.trans (rr_iload_n rfl rfl) ?_
    refine Eq.trans (rr_imul rfl) ?_
    refine Eq.trans (rr_iload rfl rfl) ?_
    refine Eq.trans (rr_iadd rfl) ?_
    refine Eq.trans (rr_iload rfl rfl) ?_
    refine Eq.trans (rr_iadd rfl) ?_
    refine Eq.trans (rr_aload_n rfl rfl) ?_
    refine Eq.trans (rr_getfr rfl rfl rfl h1) ?_
    refine Eq.trans (rr_bipush rfl rfl) ?_
    refine Eq.trans (rr_iload_n rfl rfl) ?_
    refine Eq.trans (rr_imul rfl) ?_
    refine Eq.trans (rr_iload_n rfl rfl) ?_
    refine Eq.trans (rr_iadd rfl) ?_
    refine Eq.trans (rr_iload rfl rfl) ?_
    refine Eq.trans (rr_iadd rfl) ?_
    refine ck_it (fun h => rr_laload rfl h) (fun h => rr_laload_no rfl h) (fun h2 => ?_)
    refine ck_it (fun h => rr_lastore rfl h) (fun h => rr_lastore_no rfl h) (fun h3 => ?_)
    refine Eq.trans (rr_iinc (L' := [some (.inr (.inr l0)), some (.inl l1), some (.inl l2), some (.inl l3), some (.inl l4), some (.inl l5), some (.inl (am_w (l6 + 1)))]) rfl rfl rfl) ?_
    refine Eq.trans (rr_goto rfl rfl) ?_
    rfl
theorem pX7_element_0 (l0 l1 l2 : Int) (ω : am_W) : am_run (159, 0) 0 ([some (.inr (.inr l0)), some (.inl l1), some (.inl l2)], [], ω) = am_bi (am_run (149, 0) 0 ([some (.inl l1), some (.inl 0), some (.inl 7)], [], ω)) (fun z1 ω1 => if z1 = 0 then (some (some (.inr (.inl 0)), ω1)) else (if am_is ω1 l0 (7, 30) = true then (am_bi (am_run (154, 0) 0 ([some (.inr (.inr l0)), some (.inl l1)], [], ω1)) (fun z2 ω2 => if z2 = 0 then (some (some (.inr (.inl 0)), ω2)) else (if am_is ω2 l0 (7, 30) = true then (if am_in ω2 (am_get ω2 l0.toNat 1) 100 l1 = true then (am_bi (am_run (149, 0) 0 ([some (.inl l2), some (.inl 0), some (.inl (am_w ((am_get ω2 (am_get ω2 l0.toNat 1).toNat l1.toNat) - 1)))], [], ω2)) (fun z3 ω3 => if z3 = 0 then (some (some (.inr (.inl 0)), ω3)) else (if am_is ω3 l0 (7, 30) = true then (if am_in ω3 (am_get ω3 l0.toNat 2) 101 (am_w ((am_w (40 * l1)) + l2)) = true then (some (some (.inr (.inl (am_get ω3 (am_get ω3 l0.toNat 2).toNat (am_w ((am_w (40 * l1)) + l2)).toNat))), ω3)) else none) else none))) else none) else none))) else none)) := by
  refine Eq.trans (rr_iload_n rfl rfl) ?_
  refine Eq.trans (rr_iconst rfl rfl) ?_
  refine Eq.trans (rr_bipush rfl rfl) ?_
  refine Eq.trans (rr_invS2i (S' := []) (L' := [some (.inl l1), some (.inl 0), some (.inl 7)]) (m' := (149, 0)) rfl rfl rfl rfl rfl rfl) ?_
  refine bi_cg (fun z1 ω1 => ?_)
  refine Eq.trans (rr_if_eq rfl rfl) (it_cg (fun _ => ?_) (fun _ => ?_))
  · refine Eq.trans (rr_lconst rfl) ?_
    exact rr_lreturn rfl rfl
  · refine Eq.trans (rr_aload_n rfl rfl) ?_
    refine Eq.trans (rr_iload_n rfl rfl) ?_
    refine ck_it (fun h => rr_invV0i (S' := []) (L' := [some (.inr (.inr l0)), some (.inl l1)]) (m' := (154, 0)) rfl rfl rfl rfl rfl rfl h) (fun h => rr_invV0_no (S' := []) (L' := [some (.inr (.inr l0)), some (.inl l1)]) (m' := (154, 0)) rfl rfl rfl rfl rfl rfl h) (fun h1 => ?_)
    refine bi_cg (fun z2 ω2 => ?_)
    refine Eq.trans (rr_if_eq rfl rfl) (it_cg (fun _ => ?_) (fun _ => ?_))
    · refine Eq.trans (rr_lconst rfl) ?_
      exact rr_lreturn rfl rfl
    · refine Eq.trans (rr_iload_n rfl rfl) ?_
      refine Eq.trans (rr_iconst rfl rfl) ?_
      refine Eq.trans (rr_aload_n rfl rfl) ?_
      refine ck_it (fun h => rr_getfr rfl rfl rfl h) (fun h => rr_getfield_no rfl rfl h) (fun h2 => ?_)
      refine Eq.trans (rr_iload_n rfl rfl) ?_
      refine ck_it (fun h => rr_iaload rfl rfl h) (fun h => rr_iaload_no rfl rfl h) (fun h3 => ?_)
      refine Eq.trans (rr_iconst rfl rfl) ?_
      refine Eq.trans (rr_isub rfl) ?_
      refine Eq.trans (rr_invS2i (S' := []) (L' := [some (.inl l2), some (.inl 0), some (.inl (am_w ((am_get ω2 (am_get ω2 l0.toNat 1).toNat l1.toNat) - 1)))]) (m' := (149, 0)) rfl rfl rfl rfl rfl rfl) ?_
      refine bi_cg (fun z3 ω3 => ?_)
      refine Eq.trans (rr_if_eq rfl rfl) (it_cg (fun _ => ?_) (fun _ => ?_))
      · refine Eq.trans (rr_lconst rfl) ?_
        exact rr_lreturn rfl rfl
      · refine Eq.trans (rr_aload_n rfl rfl) ?_
        refine ck_it (fun h => rr_getfr rfl rfl rfl h) (fun h => rr_getfield_no rfl rfl h) (fun h4 => ?_)
        refine Eq.trans (rr_bipush rfl rfl) ?_
        refine Eq.trans (rr_iload_n rfl rfl) ?_
        refine Eq.trans (rr_imul rfl) ?_
        refine Eq.trans (rr_iload_n rfl rfl) ?_
        refine Eq.trans (rr_iadd rfl) ?_
        refine ck_it (fun h => rr_laload rfl h) (fun h => rr_laload_no rfl h) (fun h5 => ?_)
        refine Eq.trans (rr_goto rfl rfl) ?_
        exact rr_lreturn rfl rfl
theorem pX7_holds_0 (l0 l1 : Int) (ω : am_W) : am_run (160, 0) 0 ([some (.inr (.inr l0)), some (.inl l1)], [], ω) = am_bi (am_run (149, 0) 0 ([some (.inl l1), some (.inl 0), some (.inl 7)], [], ω)) (fun z1 ω1 => if z1 = 0 then (some (some (.inl ((-1))), ω1)) else (if am_is ω1 l0 (7, 30) = true then (if am_in ω1 (am_get ω1 l0.toNat 0) 100 l1 = true then (some (some (.inl (am_get ω1 (am_get ω1 l0.toNat 0).toNat l1.toNat)), ω1)) else none) else none)) := by
  refine Eq.trans (rr_iload_n rfl rfl) ?_
  refine Eq.trans (rr_iconst rfl rfl) ?_
  refine Eq.trans (rr_bipush rfl rfl) ?_
  refine Eq.trans (rr_invS2i (S' := []) (L' := [some (.inl l1), some (.inl 0), some (.inl 7)]) (m' := (149, 0)) rfl rfl rfl rfl rfl rfl) ?_
  refine bi_cg (fun z1 ω1 => ?_)
  refine Eq.trans (rr_if_eq rfl rfl) (it_cg (fun _ => ?_) (fun _ => ?_))
  · refine Eq.trans (rr_iconst rfl rfl) ?_
    exact rr_ireturn rfl rfl
  · refine Eq.trans (rr_aload_n rfl rfl) ?_
    refine ck_it (fun h => rr_getfr rfl rfl rfl h) (fun h => rr_getfield_no rfl rfl h) (fun h1 => ?_)
    refine Eq.trans (rr_iload_n rfl rfl) ?_
    refine ck_it (fun h => rr_iaload rfl rfl h) (fun h => rr_iaload_no rfl rfl h) (fun h2 => ?_)
    refine Eq.trans (rr_goto rfl rfl) ?_
    exact rr_ireturn rfl rfl
theorem pX7_show_0 (l0 l1 l2 : Int) (ω : am_W) : am_run (161, 0) 0 ([some (.inr (.inr l0)), some (.inl l1), some (.inl l2)], [], ω) = am_bi (am_run (149, 0) 0 ([some (.inl l1), some (.inl 0), some (.inl 7)], [], ω)) (fun z1 ω1 => if z1 = 0 then (if am_is ω1 l0 (7, 30) = true then (am_bi (am_run (148, 0) 0 ([some (.inr (.inr l0)), some (.inl ((-2)))], [], ω1)) (fun z2 ω2 => some (some (.inl z2), ω2))) else none) else (if l2 = ((-1)) then (am_run (161, 0) 30 ([some (.inr (.inr l0)), some (.inl l1), some (.inl l2)], [], ω1)) else (if am_is ω1 l0 (7, 30) = true then (am_bi (am_run (151, 0) 0 ([some (.inr (.inr l0)), some (.inl l2)], [], ω1)) (fun z3 ω3 => if ¬ z3 = 0 then (am_run (161, 0) 30 ([some (.inr (.inr l0)), some (.inl l1), some (.inl l2)], [], ω3)) else (if am_is ω3 l0 (7, 30) = true then (am_bi (am_run (148, 0) 0 ([some (.inr (.inr l0)), some (.inl ((-2)))], [], ω3)) (fun z4 ω4 => some (some (.inl z4), ω4))) else none))) else none))) := by
  refine Eq.trans (rr_iload_n rfl rfl) ?_
  refine Eq.trans (rr_iconst rfl rfl) ?_
  refine Eq.trans (rr_bipush rfl rfl) ?_
  refine Eq.trans (rr_invS2i (S' := []) (L' := [some (.inl l1), some (.inl 0), some (.inl 7)]) (m' := (149, 0)) rfl rfl rfl rfl rfl rfl) ?_
  refine bi_cg (fun z1 ω1 => ?_)
  refine Eq.trans (rr_if_eq rfl rfl) (it_cg (fun _ => ?_) (fun _ => ?_))
  · refine Eq.trans (rr_aload_n rfl rfl) ?_
    refine Eq.trans (rr_bipush rfl rfl) ?_
    refine ck_it (fun h => rr_invV0i (S' := []) (L' := [some (.inr (.inr l0)), some (.inl ((-2)))]) (m' := (148, 0)) rfl rfl rfl rfl rfl rfl h) (fun h => rr_invV0_no (S' := []) (L' := [some (.inr (.inr l0)), some (.inl ((-2)))]) (m' := (148, 0)) rfl rfl rfl rfl rfl rfl h) (fun h1 => ?_)
    refine bi_cg (fun z2 ω2 => ?_)
    exact rr_ireturn rfl rfl
  · refine Eq.trans (rr_iload_n rfl rfl) ?_
    refine Eq.trans (rr_iconst rfl rfl) ?_
    refine Eq.trans (rr_icmp_eq rfl rfl) (it_cg (fun _ => ?_) (fun _ => ?_))
    · rfl
    · refine Eq.trans (rr_aload_n rfl rfl) ?_
      refine Eq.trans (rr_iload_n rfl rfl) ?_
      refine ck_it (fun h => rr_invV0i (S' := []) (L' := [some (.inr (.inr l0)), some (.inl l2)]) (m' := (151, 0)) rfl rfl rfl rfl rfl rfl h) (fun h => rr_invV0_no (S' := []) (L' := [some (.inr (.inr l0)), some (.inl l2)]) (m' := (151, 0)) rfl rfl rfl rfl rfl rfl h) (fun h2 => ?_)
      refine bi_cg (fun z3 ω3 => ?_)
      refine Eq.trans (rr_if_ne rfl rfl) (it_cg (fun _ => ?_) (fun _ => ?_))
      · rfl
      · refine Eq.trans (rr_aload_n rfl rfl) ?_
        refine Eq.trans (rr_bipush rfl rfl) ?_
        refine ck_it (fun h => rr_invV0i (S' := []) (L' := [some (.inr (.inr l0)), some (.inl ((-2)))]) (m' := (148, 0)) rfl rfl rfl rfl rfl rfl h) (fun h => rr_invV0_no (S' := []) (L' := [some (.inr (.inr l0)), some (.inl ((-2)))]) (m' := (148, 0)) rfl rfl rfl rfl rfl rfl h) (fun h3 => ?_)
        refine bi_cg (fun z4 ω4 => ?_)
        exact rr_ireturn rfl rfl
theorem pX7_show_30 (l0 l1 l2 : Int) (ω : am_W) (h1 : am_is ω l0 (7, 30) = true) : am_run (161, 0) 30 ([some (.inr (.inr l0)), some (.inl l1), some (.inl l2)], [], ω) = if ¬ l2 = ((-1)) then (if am_in ω (am_get ω l0.toNat 0) 100 l1 = true then (some (some (.inl 1), am_put ω (am_get ω l0.toNat 0).toNat l1.toNat (am_w (10 + l2)))) else none) else (if am_in ω (am_get ω l0.toNat 0) 100 l1 = true then (some (some (.inl 1), am_put ω (am_get ω l0.toNat 0).toNat l1.toNat ((-1)))) else none) := by
  refine Eq.trans (rr_aload_n rfl rfl) ?_
  refine Eq.trans (rr_getfr rfl rfl rfl h1) ?_
  refine Eq.trans (rr_iload_n rfl rfl) ?_
  refine Eq.trans (rr_iload_n rfl rfl) ?_
  refine Eq.trans (rr_iconst rfl rfl) ?_
  refine Eq.trans (rr_icmp_ne rfl rfl) (it_cg (fun _ => ?_) (fun _ => ?_))
  · refine Eq.trans (rr_bipush rfl rfl) ?_
    refine Eq.trans (rr_iload_n rfl rfl) ?_
    refine Eq.trans (rr_iadd rfl) ?_
    refine ck_it (fun h => rr_iastore rfl h) (fun h => rr_iastore_no rfl h) (fun h2 => ?_)
    refine Eq.trans (rr_iconst rfl rfl) ?_
    exact rr_ireturn rfl rfl
  · refine Eq.trans (rr_iconst rfl rfl) ?_
    refine Eq.trans (rr_goto rfl rfl) ?_
    refine ck_it (fun h => rr_iastore rfl h) (fun h => rr_iastore_no rfl h) (fun h3 => ?_)
    refine Eq.trans (rr_iconst rfl rfl) ?_
    exact rr_ireturn rfl rfl
theorem pX7_isUnder_0 (l0 l1 : Int) (ω : am_W) : am_run (162, 0) 0 ([some (.inl l0), some (.inl l1)], [], ω) = if l1 = 0 then (some (some (.inl 1), ω)) else (if l0 = l1 then (some (some (.inl 1), ω)) else (if ¬ l0 = 3 then (if ¬ l0 = 5 then (some (some (.inl 0), ω)) else (if ¬ l1 = 1 then (some (some (.inl 0), ω)) else (some (some (.inl 1), ω)))) else (if l1 = 2 then (some (some (.inl 1), ω)) else (if ¬ l0 = 5 then (some (some (.inl 0), ω)) else (if ¬ l1 = 1 then (some (some (.inl 0), ω)) else (some (some (.inl 1), ω))))))) := by
  refine Eq.trans (rr_iload_n rfl rfl) ?_
  refine Eq.trans (rr_if_eq rfl rfl) (it_cg (fun _ => ?_) (fun _ => ?_))
  · refine Eq.trans (rr_iconst rfl rfl) ?_
    refine Eq.trans (rr_goto rfl rfl) ?_
    exact rr_ireturn rfl rfl
  · refine Eq.trans (rr_iload_n rfl rfl) ?_
    refine Eq.trans (rr_iload_n rfl rfl) ?_
    refine Eq.trans (rr_icmp_eq rfl rfl) (it_cg (fun _ => ?_) (fun _ => ?_))
    · refine Eq.trans (rr_iconst rfl rfl) ?_
      refine Eq.trans (rr_goto rfl rfl) ?_
      exact rr_ireturn rfl rfl
    · refine Eq.trans (rr_iload_n rfl rfl) ?_
      refine Eq.trans (rr_iconst rfl rfl) ?_
      refine Eq.trans (rr_icmp_ne rfl rfl) (it_cg (fun _ => ?_) (fun _ => ?_))
      · refine Eq.trans (rr_iload_n rfl rfl) ?_
        refine Eq.trans (rr_iconst rfl rfl) ?_
        refine Eq.trans (rr_icmp_ne rfl rfl) (it_cg (fun _ => ?_) (fun _ => ?_))
        · refine Eq.trans (rr_iconst rfl rfl) ?_
          exact rr_ireturn rfl rfl
        · refine Eq.trans (rr_iload_n rfl rfl) ?_
          refine Eq.trans (rr_iconst rfl rfl) ?_
          refine Eq.trans (rr_icmp_ne rfl rfl) (it_cg (fun _ => ?_) (fun _ => ?_))
          · refine Eq.trans (rr_iconst rfl rfl) ?_
            exact rr_ireturn rfl rfl
          · refine Eq.trans (rr_iconst rfl rfl) ?_
            refine Eq.trans (rr_goto rfl rfl) ?_
            exact rr_ireturn rfl rfl
      · refine Eq.trans (rr_iload_n rfl rfl) ?_
        refine Eq.trans (rr_iconst rfl rfl) ?_
        refine Eq.trans (rr_icmp_eq rfl rfl) (it_cg (fun _ => ?_) (fun _ => ?_))
        · refine Eq.trans (rr_iconst rfl rfl) ?_
          refine Eq.trans (rr_goto rfl rfl) ?_
          exact rr_ireturn rfl rfl
        · refine Eq.trans (rr_iload_n rfl rfl) ?_
          refine Eq.trans (rr_iconst rfl rfl) ?_
          refine Eq.trans (rr_icmp_ne rfl rfl) (it_cg (fun _ => ?_) (fun _ => ?_))
          · refine Eq.trans (rr_iconst rfl rfl) ?_
            exact rr_ireturn rfl rfl
          · refine Eq.trans (rr_iload_n rfl rfl) ?_
            refine Eq.trans (rr_iconst rfl rfl) ?_
            refine Eq.trans (rr_icmp_ne rfl rfl) (it_cg (fun _ => ?_) (fun _ => ?_))
            · refine Eq.trans (rr_iconst rfl rfl) ?_
              exact rr_ireturn rfl rfl
            · refine Eq.trans (rr_iconst rfl rfl) ?_
              refine Eq.trans (rr_goto rfl rfl) ?_
              exact rr_ireturn rfl rfl
theorem pX7_says_0 (l0 l1 l2 : Int) (ω : am_W) : am_run (163, 0) 0 ([some (.inr (.inr l0)), some (.inl l1), some (.inl l2), none, none, none], [], ω) = am_bi (am_run (149, 0) 0 ([some (.inl l1), some (.inl 0), some (.inl 7)], [], ω)) (fun z1 ω1 => if z1 = 0 then (if am_is ω1 l0 (7, 30) = true then (am_bi (am_run (148, 0) 0 ([some (.inr (.inr l0)), some (.inl ((-2)))], [], ω1)) (fun z2 ω2 => some (some (.inl z2), ω2))) else none) else (am_bi (am_run (149, 0) 0 ([some (.inl l2), some (.inl 0), some (.inl 5)], [], ω1)) (fun z3 ω3 => if ¬ z3 = 0 then (if am_is ω3 l0 (7, 30) = true then (if am_in ω3 (am_get ω3 l0.toNat 0) 100 l1 = true then (am_bi (am_run (154, 0) 0 ([some (.inr (.inr l0)), some (.inl l1)], [], ω3)) (fun z4 ω4 => if ¬ z4 = 0 then (if am_is ω4 l0 (7, 30) = true then (am_bi (am_run (148, 0) 0 ([some (.inr (.inr l0)), some (.inl ((-3)))], [], ω4)) (fun z5 ω5 => some (some (.inl z5), ω5))) else none) else (if (am_w ((am_get ω3 (am_get ω3 l0.toNat 0).toNat l1.toNat) - 10)) < 0 then (am_run (163, 0) 68 ([some (.inr (.inr l0)), some (.inl l1), some (.inl l2), some (.inl (am_w ((am_get ω3 (am_get ω3 l0.toNat 0).toNat l1.toNat) - 10))), none, none], [], ω4)) else (if am_is ω4 l0 (7, 30) = true then (if am_in ω4 (am_get ω4 l0.toNat 7) 100 (am_w ((am_get ω3 (am_get ω3 l0.toNat 0).toNat l1.toNat) - 10)) = true then (am_bi (am_run (162, 0) 0 ([some (.inl (am_get ω4 (am_get ω4 l0.toNat 7).toNat (am_w ((am_get ω3 (am_get ω3 l0.toNat 0).toNat l1.toNat) - 10)).toNat)), some (.inl l2)], [], ω4)) (fun z6 ω6 => if ¬ z6 = 0 then (am_run (163, 0) 68 ([some (.inr (.inr l0)), some (.inl l1), some (.inl l2), some (.inl (am_w ((am_get ω3 (am_get ω3 l0.toNat 0).toNat l1.toNat) - 10))), none, none], [], ω6)) else (if am_is ω6 l0 (7, 30) = true then (am_bi (am_run (148, 0) 0 ([some (.inr (.inr l0)), some (.inl ((-3)))], [], ω6)) (fun z7 ω7 => some (some (.inl z7), ω7))) else none))) else none) else none)))) else none) else none) else (if am_is ω3 l0 (7, 30) = true then (am_bi (am_run (148, 0) 0 ([some (.inr (.inr l0)), some (.inl ((-2)))], [], ω3)) (fun z8 ω8 => some (some (.inl z8), ω8))) else none)))) := by
  refine Eq.trans (rr_iload_n rfl rfl) ?_
  refine Eq.trans (rr_iconst rfl rfl) ?_
  refine Eq.trans (rr_bipush rfl rfl) ?_
  refine Eq.trans (rr_invS2i (S' := []) (L' := [some (.inl l1), some (.inl 0), some (.inl 7)]) (m' := (149, 0)) rfl rfl rfl rfl rfl rfl) ?_
  refine bi_cg (fun z1 ω1 => ?_)
  refine Eq.trans (rr_if_eq rfl rfl) (it_cg (fun _ => ?_) (fun _ => ?_))
  · refine Eq.trans (rr_aload_n rfl rfl) ?_
    refine Eq.trans (rr_bipush rfl rfl) ?_
    refine ck_it (fun h => rr_invV0i (S' := []) (L' := [some (.inr (.inr l0)), some (.inl ((-2)))]) (m' := (148, 0)) rfl rfl rfl rfl rfl rfl h) (fun h => rr_invV0_no (S' := []) (L' := [some (.inr (.inr l0)), some (.inl ((-2)))]) (m' := (148, 0)) rfl rfl rfl rfl rfl rfl h) (fun h1 => ?_)
    refine bi_cg (fun z2 ω2 => ?_)
    exact rr_ireturn rfl rfl
  · refine Eq.trans (rr_iload_n rfl rfl) ?_
    refine Eq.trans (rr_iconst rfl rfl) ?_
    refine Eq.trans (rr_iconst rfl rfl) ?_
    refine Eq.trans (rr_invS2i (S' := []) (L' := [some (.inl l2), some (.inl 0), some (.inl 5)]) (m' := (149, 0)) rfl rfl rfl rfl rfl rfl) ?_
    refine bi_cg (fun z3 ω3 => ?_)
    refine Eq.trans (rr_if_ne rfl rfl) (it_cg (fun _ => ?_) (fun _ => ?_))
    · refine Eq.trans (rr_aload_n rfl rfl) ?_
      refine ck_it (fun h => rr_getfr rfl rfl rfl h) (fun h => rr_getfield_no rfl rfl h) (fun h2 => ?_)
      refine Eq.trans (rr_iload_n rfl rfl) ?_
      refine ck_it (fun h => rr_iaload rfl rfl h) (fun h => rr_iaload_no rfl rfl h) (fun h3 => ?_)
      refine Eq.trans (rr_bipush rfl rfl) ?_
      refine Eq.trans (rr_isub rfl) ?_
      refine Eq.trans (rr_istore_n (L' := [some (.inr (.inr l0)), some (.inl l1), some (.inl l2), some (.inl (am_w ((am_get ω3 (am_get ω3 l0.toNat 0).toNat l1.toNat) - 10))), none, none]) rfl rfl) ?_
      refine Eq.trans (rr_aload_n rfl rfl) ?_
      refine Eq.trans (rr_iload_n rfl rfl) ?_
      refine Eq.trans (rr_invV0i (S' := []) (L' := [some (.inr (.inr l0)), some (.inl l1)]) (m' := (154, 0)) rfl rfl rfl rfl rfl rfl h2) ?_
      refine bi_cg (fun z4 ω4 => ?_)
      refine Eq.trans (rr_if_ne rfl rfl) (it_cg (fun _ => ?_) (fun _ => ?_))
      · refine Eq.trans (rr_aload_n rfl rfl) ?_
        refine Eq.trans (rr_bipush rfl rfl) ?_
        refine ck_it (fun h => rr_invV0i (S' := []) (L' := [some (.inr (.inr l0)), some (.inl ((-3)))]) (m' := (148, 0)) rfl rfl rfl rfl rfl rfl h) (fun h => rr_invV0_no (S' := []) (L' := [some (.inr (.inr l0)), some (.inl ((-3)))]) (m' := (148, 0)) rfl rfl rfl rfl rfl rfl h) (fun h4 => ?_)
        refine bi_cg (fun z5 ω5 => ?_)
        exact rr_ireturn rfl rfl
      · refine Eq.trans (rr_iload_n rfl rfl) ?_
        refine Eq.trans (rr_if_lt rfl rfl) (it_cg (fun _ => ?_) (fun _ => ?_))
        · rfl
        · refine Eq.trans (rr_aload_n rfl rfl) ?_
          refine ck_it (fun h => rr_getfr rfl rfl rfl h) (fun h => rr_getfield_no rfl rfl h) (fun h5 => ?_)
          refine Eq.trans (rr_iload_n rfl rfl) ?_
          refine ck_it (fun h => rr_iaload rfl rfl h) (fun h => rr_iaload_no rfl rfl h) (fun h6 => ?_)
          refine Eq.trans (rr_iload_n rfl rfl) ?_
          refine Eq.trans (rr_invS2i (S' := []) (L' := [some (.inl (am_get ω4 (am_get ω4 l0.toNat 7).toNat (am_w ((am_get ω3 (am_get ω3 l0.toNat 0).toNat l1.toNat) - 10)).toNat)), some (.inl l2)]) (m' := (162, 0)) rfl rfl rfl rfl rfl rfl) ?_
          refine bi_cg (fun z6 ω6 => ?_)
          refine Eq.trans (rr_if_ne rfl rfl) (it_cg (fun _ => ?_) (fun _ => ?_))
          · rfl
          · refine Eq.trans (rr_aload_n rfl rfl) ?_
            refine Eq.trans (rr_bipush rfl rfl) ?_
            refine ck_it (fun h => rr_invV0i (S' := []) (L' := [some (.inr (.inr l0)), some (.inl ((-3)))]) (m' := (148, 0)) rfl rfl rfl rfl rfl rfl h) (fun h => rr_invV0_no (S' := []) (L' := [some (.inr (.inr l0)), some (.inl ((-3)))]) (m' := (148, 0)) rfl rfl rfl rfl rfl rfl h) (fun h7 => ?_)
            refine bi_cg (fun z7 ω7 => ?_)
            exact rr_ireturn rfl rfl
    · refine Eq.trans (rr_aload_n rfl rfl) ?_
      refine Eq.trans (rr_bipush rfl rfl) ?_
      refine ck_it (fun h => rr_invV0i (S' := []) (L' := [some (.inr (.inr l0)), some (.inl ((-2)))]) (m' := (148, 0)) rfl rfl rfl rfl rfl rfl h) (fun h => rr_invV0_no (S' := []) (L' := [some (.inr (.inr l0)), some (.inl ((-2)))]) (m' := (148, 0)) rfl rfl rfl rfl rfl rfl h) (fun h8 => ?_)
      refine bi_cg (fun z8 ω8 => ?_)
      exact rr_ireturn rfl rfl
theorem pX7_says_68 (l0 l1 l2 l3 : Int) (o4 o5 : Option am_V) (ω : am_W) (h2 : am_is ω l0 (7, 30) = true) : am_run (163, 0) 68 ([some (.inr (.inr l0)), some (.inl l1), some (.inl l2), some (.inl l3), o4, o5], [], ω) = if 0 ≤ l3 then (if l2 = 0 then (if am_in ω (am_get ω l0.toNat 10) 100 l3 = true then (some (some (.inl (am_get ω (am_get ω l0.toNat 10).toNat l3.toNat)), ω)) else none) else if l2 = 1 then (if am_in ω (am_get ω l0.toNat 8) 100 l3 = true then (if ¬ (am_get ω (am_get ω l0.toNat 8).toNat l3.toNat) = (am_w ((am_get ω l0.toNat 3) - 1)) then (am_bi (am_run (184, 0) 0 ([some (.inr (.inr l0)), some (.inl l3), some (.inl (am_get ω (am_get ω l0.toNat 8).toNat l3.toNat))], [], ω)) (fun z1 ω1 => some (some (.inl z1), ω1))) else (some (some (.inl 0), ω))) else none) else if l2 = 2 then (am_run (163, 0) 157 ([some (.inr (.inr l0)), some (.inl l1), some (.inl l2), some (.inl l3), some (.inl 0), some (.inl 0)], [], ω)) else if l2 = 3 then (am_run (163, 0) 197 ([some (.inr (.inr l0)), some (.inl l1), some (.inl l2), some (.inl l3), some (.inl 0), some (.inl 0)], [], ω)) else if l2 = 4 then (if am_in ω (am_get ω l0.toNat 8) 100 l3 = true then (if am_in ω (am_get ω l0.toNat 4) 100 (am_get ω (am_get ω l0.toNat 8).toNat l3.toNat) = true then (some (some (.inl (am_w ((am_get ω (am_get ω l0.toNat 4).toNat (am_get ω (am_get ω l0.toNat 8).toNat l3.toNat).toNat) - 1))), ω)) else none) else none) else (am_run (163, 0) 267 ([some (.inr (.inr l0)), some (.inl l1), some (.inl l2), some (.inl l3), some (.inl 0), some (.inl 0)], [], ω))) else (am_bi (am_run (148, 0) 0 ([some (.inr (.inr l0)), some (.inl ((-4)))], [], ω)) (fun z2 ω2 => some (some (.inl z2), ω2))) := by
  refine Eq.trans (rr_iload_n rfl rfl) ?_
  refine Eq.trans (rr_if_ge rfl rfl) (it_cg (fun _ => ?_) (fun _ => ?_))
  · refine Eq.trans (rr_iconst rfl rfl) ?_
    refine Eq.trans (rr_istore (L' := [some (.inr (.inr l0)), some (.inl l1), some (.inl l2), some (.inl l3), some (.inl 0), o5]) rfl rfl) ?_
    refine Eq.trans (rr_iload_n rfl rfl) ?_
    refine sw_it (fun q1 => Eq.trans (rr_tsw rfl (by rw [q1]; rfl) rfl) ?_) (fun q1 => ?_)
    · refine Eq.trans (rr_aload_n rfl rfl) ?_
      refine Eq.trans (rr_getfr rfl rfl rfl h2) ?_
      refine Eq.trans (rr_iload_n rfl rfl) ?_
      refine ck_it (fun h => rr_iaload rfl rfl h) (fun h => rr_iaload_no rfl rfl h) (fun h3 => ?_)
      exact rr_ireturn rfl rfl
    refine sw_it (fun q4 => Eq.trans (rr_tsw rfl (by rw [q4]; rfl) rfl) ?_) (fun q4 => ?_)
    · refine Eq.trans (rr_aload_n rfl rfl) ?_
      refine Eq.trans (rr_getfr rfl rfl rfl h2) ?_
      refine Eq.trans (rr_iload_n rfl rfl) ?_
      refine ck_it (fun h => rr_iaload rfl rfl h) (fun h => rr_iaload_no rfl rfl h) (fun h5 => ?_)
      refine Eq.trans (rr_aload_n rfl rfl) ?_
      refine Eq.trans (rr_getfi rfl rfl rfl h2) ?_
      refine Eq.trans (rr_iconst rfl rfl) ?_
      refine Eq.trans (rr_isub rfl) ?_
      refine Eq.trans (rr_icmp_ne rfl rfl) (it_cg (fun _ => ?_) (fun _ => ?_))
      · refine Eq.trans (rr_aload_n rfl rfl) ?_
        refine Eq.trans (rr_iload_n rfl rfl) ?_
        refine Eq.trans (rr_aload_n rfl rfl) ?_
        refine Eq.trans (rr_getfr rfl rfl rfl h2) ?_
        refine Eq.trans (rr_iload_n rfl rfl) ?_
        refine Eq.trans (rr_iaload rfl rfl h5) ?_
        refine Eq.trans (rr_invV0i (S' := []) (L' := [some (.inr (.inr l0)), some (.inl l3), some (.inl (am_get ω (am_get ω l0.toNat 8).toNat l3.toNat))]) (m' := (184, 0)) rfl rfl rfl rfl rfl rfl h2) ?_
        refine bi_cg (fun z1 ω1 => ?_)
        exact rr_ireturn rfl rfl
      · refine Eq.trans (rr_iconst rfl rfl) ?_
        refine Eq.trans (rr_goto rfl rfl) ?_
        exact rr_ireturn rfl rfl
    refine sw_it (fun q6 => Eq.trans (rr_tsw rfl (by rw [q6]; rfl) rfl) ?_) (fun q6 => ?_)
    · refine Eq.trans (rr_iconst rfl rfl) ?_
      refine Eq.trans (rr_istore (L' := [some (.inr (.inr l0)), some (.inl l1), some (.inl l2), some (.inl l3), some (.inl 0), some (.inl 0)]) rfl rfl) ?_
      rfl
    refine sw_it (fun q7 => Eq.trans (rr_tsw rfl (by rw [q7]; rfl) rfl) ?_) (fun q7 => ?_)
    · refine Eq.trans (rr_iconst rfl rfl) ?_
      refine Eq.trans (rr_istore (L' := [some (.inr (.inr l0)), some (.inl l1), some (.inl l2), some (.inl l3), some (.inl 0), some (.inl 0)]) rfl rfl) ?_
      rfl
    refine sw_it (fun q8 => Eq.trans (rr_tsw rfl (by rw [q8]; rfl) rfl) ?_) (fun q8 => ?_)
    · refine Eq.trans (rr_aload_n rfl rfl) ?_
      refine Eq.trans (rr_getfr rfl rfl rfl h2) ?_
      refine Eq.trans (rr_aload_n rfl rfl) ?_
      refine Eq.trans (rr_getfr rfl rfl rfl h2) ?_
      refine Eq.trans (rr_iload_n rfl rfl) ?_
      refine ck_it (fun h => rr_iaload rfl rfl h) (fun h => rr_iaload_no rfl rfl h) (fun h9 => ?_)
      refine ck_it (fun h => rr_iaload rfl rfl h) (fun h => rr_iaload_no rfl rfl h) (fun h10 => ?_)
      refine Eq.trans (rr_iconst rfl rfl) ?_
      refine Eq.trans (rr_isub rfl) ?_
      exact rr_ireturn rfl rfl
    refine Eq.trans (rr_tsw rfl (am_tsw_out (by omega)) rfl) ?_
    refine Eq.trans (rr_iconst rfl rfl) ?_
    refine Eq.trans (rr_istore (L' := [some (.inr (.inr l0)), some (.inl l1), some (.inl l2), some (.inl l3), some (.inl 0), some (.inl 0)]) rfl rfl) ?_
    rfl
  · refine Eq.trans (rr_aload_n rfl rfl) ?_
    refine Eq.trans (rr_bipush rfl rfl) ?_
    refine Eq.trans (rr_invV0i (S' := []) (L' := [some (.inr (.inr l0)), some (.inl ((-4)))]) (m' := (148, 0)) rfl rfl rfl rfl rfl rfl h2) ?_
    refine bi_cg (fun z2 ω2 => ?_)
    exact rr_ireturn rfl rfl
theorem pX7_says_157 (l0 l1 l2 l3 l4 l5 : Int) (ω : am_W) (h1 : am_is ω l0 (7, 30) = true) : am_run (163, 0) 157 ([some (.inr (.inr l0)), some (.inl l1), some (.inl l2), some (.inl l3), some (.inl l4), some (.inl l5)], [], ω) = if (am_get ω l0.toNat 6) ≤ l5 then (some (some (.inl l4), ω)) else (if l5 = l3 then (am_run (163, 0) 157 ([some (.inr (.inr l0)), some (.inl l1), some (.inl l2), some (.inl l3), some (.inl l4), some (.inl (am_w (l5 + 1)))], [], ω)) else (am_bi (am_run (183, 0) 0 ([some (.inr (.inr l0)), some (.inl l3), some (.inl l5)], [], ω)) (fun z1 ω1 => if z1 = 0 then (am_run (163, 0) 157 ([some (.inr (.inr l0)), some (.inl l1), some (.inl l2), some (.inl l3), some (.inl l4), some (.inl (am_w (l5 + 1)))], [], ω1)) else (am_run (163, 0) 157 ([some (.inr (.inr l0)), some (.inl l1), some (.inl l2), some (.inl l3), some (.inl (am_w (l4 + 1))), some (.inl (am_w (l5 + 1)))], [], ω1))))) := by
  refine Eq.trans (rr_iload rfl rfl) ?_
  refine Eq.trans (rr_aload_n rfl rfl) ?_
  refine Eq.trans (rr_getfi rfl rfl rfl h1) ?_
  refine Eq.trans (rr_icmp_ge rfl rfl) (it_cg (fun _ => ?_) (fun _ => ?_))
  · refine Eq.trans (rr_iload rfl rfl) ?_
    exact rr_ireturn rfl rfl
  · refine Eq.trans (rr_iload rfl rfl) ?_
    refine Eq.trans (rr_iload_n rfl rfl) ?_
    refine Eq.trans (rr_icmp_eq rfl rfl) (it_cg (fun _ => ?_) (fun _ => ?_))
    · refine Eq.trans (rr_iinc (L' := [some (.inr (.inr l0)), some (.inl l1), some (.inl l2), some (.inl l3), some (.inl l4), some (.inl (am_w (l5 + 1)))]) rfl rfl rfl) ?_
      refine Eq.trans (rr_goto rfl rfl) ?_
      rfl
    · refine Eq.trans (rr_aload_n rfl rfl) ?_
      refine Eq.trans (rr_iload_n rfl rfl) ?_
      refine Eq.trans (rr_iload rfl rfl) ?_
      refine Eq.trans (rr_invV0i (S' := []) (L' := [some (.inr (.inr l0)), some (.inl l3), some (.inl l5)]) (m' := (183, 0)) rfl rfl rfl rfl rfl rfl h1) ?_
      refine bi_cg (fun z1 ω1 => ?_)
      refine Eq.trans (rr_if_eq rfl rfl) (it_cg (fun _ => ?_) (fun _ => ?_))
      · refine Eq.trans (rr_iinc (L' := [some (.inr (.inr l0)), some (.inl l1), some (.inl l2), some (.inl l3), some (.inl l4), some (.inl (am_w (l5 + 1)))]) rfl rfl rfl) ?_
        refine Eq.trans (rr_goto rfl rfl) ?_
        rfl
      · refine Eq.trans (rr_iinc (L' := [some (.inr (.inr l0)), some (.inl l1), some (.inl l2), some (.inl l3), some (.inl (am_w (l4 + 1))), some (.inl l5)]) rfl rfl rfl) ?_
        refine Eq.trans (rr_iinc (L' := [some (.inr (.inr l0)), some (.inl l1), some (.inl l2), some (.inl l3), some (.inl (am_w (l4 + 1))), some (.inl (am_w (l5 + 1)))]) rfl rfl rfl) ?_
        refine Eq.trans (rr_goto rfl rfl) ?_
        rfl
theorem pX7_says_197 (l0 l1 l2 l3 l4 l5 : Int) (ω : am_W) (h1 : am_is ω l0 (7, 30) = true) : am_run (163, 0) 197 ([some (.inr (.inr l0)), some (.inl l1), some (.inl l2), some (.inl l3), some (.inl l4), some (.inl l5)], [], ω) = if (am_get ω l0.toNat 6) ≤ l5 then (some (some (.inl l4), ω)) else (if l5 = l3 then (am_run (163, 0) 197 ([some (.inr (.inr l0)), some (.inl l1), some (.inl l2), some (.inl l3), some (.inl l4), some (.inl (am_w (l5 + 1)))], [], ω)) else (if am_in ω (am_get ω l0.toNat 8) 100 l5 = true then (if am_in ω (am_get ω l0.toNat 8) 100 l3 = true then (if ¬ (am_get ω (am_get ω l0.toNat 8).toNat l5.toNat) = (am_get ω (am_get ω l0.toNat 8).toNat l3.toNat) then (am_run (163, 0) 197 ([some (.inr (.inr l0)), some (.inl l1), some (.inl l2), some (.inl l3), some (.inl l4), some (.inl (am_w (l5 + 1)))], [], ω)) else (if am_in ω (am_get ω l0.toNat 11) 100 l5 = true then (if ¬ (am_get ω (am_get ω l0.toNat 11).toNat l5.toNat) = 0 then (am_run (163, 0) 197 ([some (.inr (.inr l0)), some (.inl l1), some (.inl l2), some (.inl l3), some (.inl l4), some (.inl (am_w (l5 + 1)))], [], ω)) else (am_run (163, 0) 197 ([some (.inr (.inr l0)), some (.inl l1), some (.inl l2), some (.inl l3), some (.inl (am_w (l4 + 1))), some (.inl (am_w (l5 + 1)))], [], ω))) else none)) else none) else none)) := by
  refine Eq.trans (rr_iload rfl rfl) ?_
  refine Eq.trans (rr_aload_n rfl rfl) ?_
  refine Eq.trans (rr_getfi rfl rfl rfl h1) ?_
  refine Eq.trans (rr_icmp_ge rfl rfl) (it_cg (fun _ => ?_) (fun _ => ?_))
  · refine Eq.trans (rr_iload rfl rfl) ?_
    exact rr_ireturn rfl rfl
  · refine Eq.trans (rr_iload rfl rfl) ?_
    refine Eq.trans (rr_iload_n rfl rfl) ?_
    refine Eq.trans (rr_icmp_eq rfl rfl) (it_cg (fun _ => ?_) (fun _ => ?_))
    · refine Eq.trans (rr_iinc (L' := [some (.inr (.inr l0)), some (.inl l1), some (.inl l2), some (.inl l3), some (.inl l4), some (.inl (am_w (l5 + 1)))]) rfl rfl rfl) ?_
      refine Eq.trans (rr_goto rfl rfl) ?_
      rfl
    · refine Eq.trans (rr_aload_n rfl rfl) ?_
      refine Eq.trans (rr_getfr rfl rfl rfl h1) ?_
      refine Eq.trans (rr_iload rfl rfl) ?_
      refine ck_it (fun h => rr_iaload rfl rfl h) (fun h => rr_iaload_no rfl rfl h) (fun h2 => ?_)
      refine Eq.trans (rr_aload_n rfl rfl) ?_
      refine Eq.trans (rr_getfr rfl rfl rfl h1) ?_
      refine Eq.trans (rr_iload_n rfl rfl) ?_
      refine ck_it (fun h => rr_iaload rfl rfl h) (fun h => rr_iaload_no rfl rfl h) (fun h3 => ?_)
      refine Eq.trans (rr_icmp_ne rfl rfl) (it_cg (fun _ => ?_) (fun _ => ?_))
      · refine Eq.trans (rr_iinc (L' := [some (.inr (.inr l0)), some (.inl l1), some (.inl l2), some (.inl l3), some (.inl l4), some (.inl (am_w (l5 + 1)))]) rfl rfl rfl) ?_
        refine Eq.trans (rr_goto rfl rfl) ?_
        rfl
      · refine Eq.trans (rr_aload_n rfl rfl) ?_
        refine Eq.trans (rr_getfr rfl rfl rfl h1) ?_
        refine Eq.trans (rr_iload rfl rfl) ?_
        refine ck_it (fun h => rr_iaload rfl rfl h) (fun h => rr_iaload_no rfl rfl h) (fun h4 => ?_)
        refine Eq.trans (rr_if_ne rfl rfl) (it_cg (fun _ => ?_) (fun _ => ?_))
        · refine Eq.trans (rr_iinc (L' := [some (.inr (.inr l0)), some (.inl l1), some (.inl l2), some (.inl l3), some (.inl l4), some (.inl (am_w (l5 + 1)))]) rfl rfl rfl) ?_
          refine Eq.trans (rr_goto rfl rfl) ?_
          rfl
        · refine Eq.trans (rr_iinc (L' := [some (.inr (.inr l0)), some (.inl l1), some (.inl l2), some (.inl l3), some (.inl (am_w (l4 + 1))), some (.inl l5)]) rfl rfl rfl) ?_
          refine Eq.trans (rr_iinc (L' := [some (.inr (.inr l0)), some (.inl l1), some (.inl l2), some (.inl l3), some (.inl (am_w (l4 + 1))), some (.inl (am_w (l5 + 1)))]) rfl rfl rfl) ?_
          refine Eq.trans (rr_goto rfl rfl) ?_
          rfl
theorem pX7_says_267 (l0 l1 l2 l3 l4 l5 : Int) (ω : am_W) (h1 : am_is ω l0 (7, 30) = true) : am_run (163, 0) 267 ([some (.inr (.inr l0)), some (.inl l1), some (.inl l2), some (.inl l3), some (.inl l4), some (.inl l5)], [], ω) = if (am_get ω l0.toNat 6) ≤ l5 then (some (some (.inl l4), ω)) else (if l5 = l3 then (am_run (163, 0) 267 ([some (.inr (.inr l0)), some (.inl l1), some (.inl l2), some (.inl l3), some (.inl l4), some (.inl (am_w (l5 + 1)))], [], ω)) else (if am_in ω (am_get ω l0.toNat 10) 100 l5 = true then (am_run (163, 0) 267 ([some (.inr (.inr l0)), some (.inl l1), some (.inl l2), some (.inl l3), some (.inl (am_w (l4 + (am_w (99 - (am_get ω (am_get ω l0.toNat 10).toNat l5.toNat)))))), some (.inl (am_w (l5 + 1)))], [], ω)) else none)) := by
  refine Eq.trans (rr_iload rfl rfl) ?_
  refine Eq.trans (rr_aload_n rfl rfl) ?_
  refine Eq.trans (rr_getfi rfl rfl rfl h1) ?_
  refine Eq.trans (rr_icmp_ge rfl rfl) (it_cg (fun _ => ?_) (fun _ => ?_))
  · refine Eq.trans (rr_iload rfl rfl) ?_
    exact rr_ireturn rfl rfl
  · refine Eq.trans (rr_iload rfl rfl) ?_
    refine Eq.trans (rr_iload_n rfl rfl) ?_
    refine Eq.trans (rr_icmp_eq rfl rfl) (it_cg (fun _ => ?_) (fun _ => ?_))
    · refine Eq.trans (rr_iinc (L' := [some (.inr (.inr l0)), some (.inl l1), some (.inl l2), some (.inl l3), some (.inl l4), some (.inl (am_w (l5 + 1)))]) rfl rfl rfl) ?_
      refine Eq.trans (rr_goto rfl rfl) ?_
      rfl
    · refine Eq.trans (rr_iload rfl rfl) ?_
      refine Eq.trans (rr_bipush rfl rfl) ?_
      refine Eq.trans (rr_aload_n rfl rfl) ?_
      refine Eq.trans (rr_getfr rfl rfl rfl h1) ?_
      refine Eq.trans (rr_iload rfl rfl) ?_
      refine ck_it (fun h => rr_iaload rfl rfl h) (fun h => rr_iaload_no rfl rfl h) (fun h2 => ?_)
      refine Eq.trans (rr_isub rfl) ?_
      refine Eq.trans (rr_iadd rfl) ?_
      refine Eq.trans (rr_istore (L' := [some (.inr (.inr l0)), some (.inl l1), some (.inl l2), some (.inl l3), some (.inl (am_w (l4 + (am_w (99 - (am_get ω (am_get ω l0.toNat 10).toNat l5.toNat)))))), some (.inl l5)]) rfl rfl) ?_
      refine Eq.trans (rr_iinc (L' := [some (.inr (.inr l0)), some (.inl l1), some (.inl l2), some (.inl l3), some (.inl (am_w (l4 + (am_w (99 - (am_get ω (am_get ω l0.toNat 10).toNat l5.toNat)))))), some (.inl (am_w (l5 + 1)))]) rfl rfl rfl) ?_
      refine Eq.trans (rr_goto rfl rfl) ?_
      rfl
theorem pX7_those_0 (l0 l1 : Int) (ω : am_W) : am_run (164, 0) 0 ([some (.inr (.inr l0)), some (.inl l1), none, none], [], ω) = am_run (164, 0) 4 ([some (.inr (.inr l0)), some (.inl l1), some (.inl 0), some (.inl 0)], [], ω) := by
  refine Eq.trans (rr_iconst rfl rfl) ?_
  refine Eq.trans (rr_istore_n (L' := [some (.inr (.inr l0)), some (.inl l1), some (.inl 0), none]) rfl rfl) ?_
  refine Eq.trans (rr_iconst rfl rfl) ?_
  refine Eq.trans (rr_istore_n (L' := [some (.inr (.inr l0)), some (.inl l1), some (.inl 0), some (.inl 0)]) rfl rfl) ?_
  rfl
theorem pX7_those_4 (l0 l1 l2 l3 : Int) (ω : am_W) (h1 : am_is ω l0 (7, 30) = true) : am_run (164, 0) 4 ([some (.inr (.inr l0)), some (.inl l1), some (.inl l2), some (.inl l3)], [], ω) = if (am_get ω l0.toNat 6) ≤ l3 then (some (some (.inl l2), ω)) else (if am_in ω (am_get ω l0.toNat 8) 100 l3 = true then (if ¬ (am_get ω (am_get ω l0.toNat 8).toNat l3.toNat) = l1 then (am_run (164, 0) 4 ([some (.inr (.inr l0)), some (.inl l1), some (.inl l2), some (.inl (am_w (l3 + 1)))], [], ω)) else (am_run (164, 0) 4 ([some (.inr (.inr l0)), some (.inl l1), some (.inl (am_or l2 (am_shl 1 l3))), some (.inl (am_w (l3 + 1)))], [], ω))) else none) := by
  refine Eq.trans (rr_iload_n rfl rfl) ?_
  refine Eq.trans (rr_aload_n rfl rfl) ?_
  refine Eq.trans (rr_getfi rfl rfl rfl h1) ?_
  refine Eq.trans (rr_icmp_ge rfl rfl) (it_cg (fun _ => ?_) (fun _ => ?_))
  · refine Eq.trans (rr_iload_n rfl rfl) ?_
    exact rr_ireturn rfl rfl
  · refine Eq.trans (rr_aload_n rfl rfl) ?_
    refine Eq.trans (rr_getfr rfl rfl rfl h1) ?_
    refine Eq.trans (rr_iload_n rfl rfl) ?_
    refine ck_it (fun h => rr_iaload rfl rfl h) (fun h => rr_iaload_no rfl rfl h) (fun h2 => ?_)
    refine Eq.trans (rr_iload_n rfl rfl) ?_
    refine Eq.trans (rr_icmp_ne rfl rfl) (it_cg (fun _ => ?_) (fun _ => ?_))
    · refine Eq.trans (rr_iinc (L' := [some (.inr (.inr l0)), some (.inl l1), some (.inl l2), some (.inl (am_w (l3 + 1)))]) rfl rfl rfl) ?_
      refine Eq.trans (rr_goto rfl rfl) ?_
      rfl
    · refine Eq.trans (rr_iload_n rfl rfl) ?_
      refine Eq.trans (rr_iconst rfl rfl) ?_
      refine Eq.trans (rr_iload_n rfl rfl) ?_
      refine Eq.trans (rr_ishl rfl) ?_
      refine Eq.trans (rr_ior rfl) ?_
      refine Eq.trans (rr_istore_n (L' := [some (.inr (.inr l0)), some (.inl l1), some (.inl (am_or l2 (am_shl 1 l3))), some (.inl l3)]) rfl rfl) ?_
      refine Eq.trans (rr_iinc (L' := [some (.inr (.inr l0)), some (.inl l1), some (.inl (am_or l2 (am_shl 1 l3))), some (.inl (am_w (l3 + 1)))]) rfl rfl rfl) ?_
      refine Eq.trans (rr_goto rfl rfl) ?_
      rfl
theorem pX7_circles_0 (l0 l1 : Int) (ω : am_W) : am_run (165, 0) 0 ([some (.inr (.inr l0)), some (.inl l1), none], [], ω) = am_bi (am_run (149, 0) 0 ([some (.inl l1), some (.inl 2), some (.inl 6)], [], ω)) (fun z1 ω1 => if ¬ z1 = 0 then (if am_is ω1 l0 (7, 30) = true then (if (am_get ω1 l0.toNat 6) ≤ 0 then (some (some (.inl (am_get ω1 l0.toNat 3)), am_put ω1 l0.toNat 3 l1)) else (am_bi (am_run (148, 0) 0 ([some (.inr (.inr l0)), some (.inl ((-5)))], [], ω1)) (fun z2 ω2 => some (some (.inl z2), ω2)))) else none) else (if am_is ω1 l0 (7, 30) = true then (am_bi (am_run (148, 0) 0 ([some (.inr (.inr l0)), some (.inl ((-2)))], [], ω1)) (fun z3 ω3 => some (some (.inl z3), ω3))) else none)) := by
  refine Eq.trans (rr_iload_n rfl rfl) ?_
  refine Eq.trans (rr_iconst rfl rfl) ?_
  refine Eq.trans (rr_bipush rfl rfl) ?_
  refine Eq.trans (rr_invS2i (S' := []) (L' := [some (.inl l1), some (.inl 2), some (.inl 6)]) (m' := (149, 0)) rfl rfl rfl rfl rfl rfl) ?_
  refine bi_cg (fun z1 ω1 => ?_)
  refine Eq.trans (rr_if_ne rfl rfl) (it_cg (fun _ => ?_) (fun _ => ?_))
  · refine Eq.trans (rr_aload_n rfl rfl) ?_
    refine ck_it (fun h => rr_getfi rfl rfl rfl h) (fun h => rr_getfield_no rfl rfl h) (fun h1 => ?_)
    refine Eq.trans (rr_if_le rfl rfl) (it_cg (fun _ => ?_) (fun _ => ?_))
    · refine Eq.trans (rr_aload_n rfl rfl) ?_
      refine Eq.trans (rr_getfi rfl rfl rfl h1) ?_
      refine Eq.trans (rr_istore_n (L' := [some (.inr (.inr l0)), some (.inl l1), some (.inl (am_get ω1 l0.toNat 3))]) rfl rfl) ?_
      refine Eq.trans (rr_aload_n rfl rfl) ?_
      refine Eq.trans (rr_iload_n rfl rfl) ?_
      refine Eq.trans (rr_putfieldi rfl rfl rfl h1) ?_
      refine Eq.trans (rr_iload_n rfl rfl) ?_
      exact rr_ireturn rfl rfl
    · refine Eq.trans (rr_aload_n rfl rfl) ?_
      refine Eq.trans (rr_bipush rfl rfl) ?_
      refine Eq.trans (rr_invV0i (S' := []) (L' := [some (.inr (.inr l0)), some (.inl ((-5)))]) (m' := (148, 0)) rfl rfl rfl rfl rfl rfl h1) ?_
      refine bi_cg (fun z2 ω2 => ?_)
      exact rr_ireturn rfl rfl
  · refine Eq.trans (rr_aload_n rfl rfl) ?_
    refine Eq.trans (rr_bipush rfl rfl) ?_
    refine ck_it (fun h => rr_invV0i (S' := []) (L' := [some (.inr (.inr l0)), some (.inl ((-2)))]) (m' := (148, 0)) rfl rfl rfl rfl rfl rfl h) (fun h => rr_invV0_no (S' := []) (L' := [some (.inr (.inr l0)), some (.inl ((-2)))]) (m' := (148, 0)) rfl rfl rfl rfl rfl rfl h) (fun h2 => ?_)
    refine bi_cg (fun z3 ω3 => ?_)
    exact rr_ireturn rfl rfl
theorem pX7_time_0 (l0 l1 l2 : Int) (ω : am_W) (h1 : am_is ω l0 (7, 30) = true) : am_run (166, 0) 0 ([some (.inr (.inr l0)), some (.inl l1), some (.inl l2), none], [], ω) = am_bi (am_run (153, 0) 0 ([some (.inr (.inr l0)), some (.inl l1)], [], ω)) (fun z1 ω1 => if z1 = 0 then (if am_is ω1 l0 (7, 30) = true then (am_bi (am_run (148, 0) 0 ([some (.inr (.inr l0)), some (.inl ((-2)))], [], ω1)) (fun z2 ω2 => some (some (.inl z2), ω2))) else none) else (am_bi (am_run (149, 0) 0 ([some (.inl l2), some (.inl 2), some (.inl 20)], [], ω1)) (fun z3 ω3 => if ¬ z3 = 0 then (if am_is ω3 l0 (7, 30) = true then (am_bi (am_run (164, 0) 0 ([some (.inr (.inr l0)), some (.inl l1), none, none], [], ω3)) (fun z4 ω4 => if z4 = 0 then (if am_is ω4 l0 (7, 30) = true then (if am_in ω4 (am_get ω4 l0.toNat 4) 100 l1 = true then (some (some (.inl (am_get ω4 (am_get ω4 l0.toNat 4).toNat l1.toNat)), am_put ω4 (am_get ω4 l0.toNat 4).toNat l1.toNat l2)) else none) else none) else (if am_is ω4 l0 (7, 30) = true then (am_bi (am_run (148, 0) 0 ([some (.inr (.inr l0)), some (.inl ((-5)))], [], ω4)) (fun z5 ω5 => some (some (.inl z5), ω5))) else none))) else none) else (if am_is ω3 l0 (7, 30) = true then (am_bi (am_run (148, 0) 0 ([some (.inr (.inr l0)), some (.inl ((-2)))], [], ω3)) (fun z6 ω6 => some (some (.inl z6), ω6))) else none)))) := by
  refine Eq.trans (rr_aload_n rfl rfl) ?_
  refine Eq.trans (rr_iload_n rfl rfl) ?_
  refine Eq.trans (rr_invV0i (S' := []) (L' := [some (.inr (.inr l0)), some (.inl l1)]) (m' := (153, 0)) rfl rfl rfl rfl rfl rfl h1) ?_
  refine bi_cg (fun z1 ω1 => ?_)
  refine Eq.trans (rr_if_eq rfl rfl) (it_cg (fun _ => ?_) (fun _ => ?_))
  · refine Eq.trans (rr_aload_n rfl rfl) ?_
    refine Eq.trans (rr_bipush rfl rfl) ?_
    refine ck_it (fun h => rr_invV0i (S' := []) (L' := [some (.inr (.inr l0)), some (.inl ((-2)))]) (m' := (148, 0)) rfl rfl rfl rfl rfl rfl h) (fun h => rr_invV0_no (S' := []) (L' := [some (.inr (.inr l0)), some (.inl ((-2)))]) (m' := (148, 0)) rfl rfl rfl rfl rfl rfl h) (fun h2 => ?_)
    refine bi_cg (fun z2 ω2 => ?_)
    exact rr_ireturn rfl rfl
  · refine Eq.trans (rr_iload_n rfl rfl) ?_
    refine Eq.trans (rr_iconst rfl rfl) ?_
    refine Eq.trans (rr_bipush rfl rfl) ?_
    refine Eq.trans (rr_invS2i (S' := []) (L' := [some (.inl l2), some (.inl 2), some (.inl 20)]) (m' := (149, 0)) rfl rfl rfl rfl rfl rfl) ?_
    refine bi_cg (fun z3 ω3 => ?_)
    refine Eq.trans (rr_if_ne rfl rfl) (it_cg (fun _ => ?_) (fun _ => ?_))
    · refine Eq.trans (rr_aload_n rfl rfl) ?_
      refine Eq.trans (rr_iload_n rfl rfl) ?_
      refine ck_it (fun h => rr_invV0i (S' := []) (L' := [some (.inr (.inr l0)), some (.inl l1), none, none]) (m' := (164, 0)) rfl rfl rfl rfl rfl rfl h) (fun h => rr_invV0_no (S' := []) (L' := [some (.inr (.inr l0)), some (.inl l1), none, none]) (m' := (164, 0)) rfl rfl rfl rfl rfl rfl h) (fun h3 => ?_)
      refine bi_cg (fun z4 ω4 => ?_)
      refine Eq.trans (rr_if_eq rfl rfl) (it_cg (fun _ => ?_) (fun _ => ?_))
      · refine Eq.trans (rr_aload_n rfl rfl) ?_
        refine ck_it (fun h => rr_getfr rfl rfl rfl h) (fun h => rr_getfield_no rfl rfl h) (fun h4 => ?_)
        refine Eq.trans (rr_iload_n rfl rfl) ?_
        refine ck_it (fun h => rr_iaload rfl rfl h) (fun h => rr_iaload_no rfl rfl h) (fun h5 => ?_)
        refine Eq.trans (rr_istore_n (L' := [some (.inr (.inr l0)), some (.inl l1), some (.inl l2), some (.inl (am_get ω4 (am_get ω4 l0.toNat 4).toNat l1.toNat))]) rfl rfl) ?_
        refine Eq.trans (rr_aload_n rfl rfl) ?_
        refine Eq.trans (rr_getfr rfl rfl rfl h4) ?_
        refine Eq.trans (rr_iload_n rfl rfl) ?_
        refine Eq.trans (rr_iload_n rfl rfl) ?_
        refine Eq.trans (rr_iastore rfl h5) ?_
        refine Eq.trans (rr_iload_n rfl rfl) ?_
        exact rr_ireturn rfl rfl
      · refine Eq.trans (rr_aload_n rfl rfl) ?_
        refine Eq.trans (rr_bipush rfl rfl) ?_
        refine ck_it (fun h => rr_invV0i (S' := []) (L' := [some (.inr (.inr l0)), some (.inl ((-5)))]) (m' := (148, 0)) rfl rfl rfl rfl rfl rfl h) (fun h => rr_invV0_no (S' := []) (L' := [some (.inr (.inr l0)), some (.inl ((-5)))]) (m' := (148, 0)) rfl rfl rfl rfl rfl rfl h) (fun h6 => ?_)
        refine bi_cg (fun z5 ω5 => ?_)
        exact rr_ireturn rfl rfl
    · refine Eq.trans (rr_aload_n rfl rfl) ?_
      refine Eq.trans (rr_bipush rfl rfl) ?_
      refine ck_it (fun h => rr_invV0i (S' := []) (L' := [some (.inr (.inr l0)), some (.inl ((-2)))]) (m' := (148, 0)) rfl rfl rfl rfl rfl rfl h) (fun h => rr_invV0_no (S' := []) (L' := [some (.inr (.inr l0)), some (.inl ((-2)))]) (m' := (148, 0)) rfl rfl rfl rfl rfl rfl h) (fun h7 => ?_)
      refine bi_cg (fun z6 ω6 => ?_)
      exact rr_ireturn rfl rfl
theorem pX7_cost_0 (l0 l1 l2 : Int) (ω : am_W) (h1 : am_is ω l0 (7, 30) = true) : am_run (167, 0) 0 ([some (.inr (.inr l0)), some (.inl l1), some (.inl l2), none], [], ω) = am_bi (am_run (149, 0) 0 ([some (.inl l1), some (.inl 0), some (.inl (am_w ((am_get ω l0.toNat 3) - 2)))], [], ω)) (fun z1 ω1 => if z1 = 0 then (if am_is ω1 l0 (7, 30) = true then (am_bi (am_run (148, 0) 0 ([some (.inr (.inr l0)), some (.inl ((-2)))], [], ω1)) (fun z2 ω2 => some (some (.inl z2), ω2))) else none) else (am_bi (am_run (149, 0) 0 ([some (.inl l2), some (.inl 1), some (.inl 9)], [], ω1)) (fun z3 ω3 => if ¬ z3 = 0 then (if am_is ω3 l0 (7, 30) = true then (if am_in ω3 (am_get ω3 l0.toNat 5) 100 l1 = true then (some (some (.inl (am_get ω3 (am_get ω3 l0.toNat 5).toNat l1.toNat)), am_put ω3 (am_get ω3 l0.toNat 5).toNat l1.toNat l2)) else none) else none) else (if am_is ω3 l0 (7, 30) = true then (am_bi (am_run (148, 0) 0 ([some (.inr (.inr l0)), some (.inl ((-2)))], [], ω3)) (fun z4 ω4 => some (some (.inl z4), ω4))) else none)))) := by
  refine Eq.trans (rr_iload_n rfl rfl) ?_
  refine Eq.trans (rr_iconst rfl rfl) ?_
  refine Eq.trans (rr_aload_n rfl rfl) ?_
  refine Eq.trans (rr_getfi rfl rfl rfl h1) ?_
  refine Eq.trans (rr_iconst rfl rfl) ?_
  refine Eq.trans (rr_isub rfl) ?_
  refine Eq.trans (rr_invS2i (S' := []) (L' := [some (.inl l1), some (.inl 0), some (.inl (am_w ((am_get ω l0.toNat 3) - 2)))]) (m' := (149, 0)) rfl rfl rfl rfl rfl rfl) ?_
  refine bi_cg (fun z1 ω1 => ?_)
  refine Eq.trans (rr_if_eq rfl rfl) (it_cg (fun _ => ?_) (fun _ => ?_))
  · refine Eq.trans (rr_aload_n rfl rfl) ?_
    refine Eq.trans (rr_bipush rfl rfl) ?_
    refine ck_it (fun h => rr_invV0i (S' := []) (L' := [some (.inr (.inr l0)), some (.inl ((-2)))]) (m' := (148, 0)) rfl rfl rfl rfl rfl rfl h) (fun h => rr_invV0_no (S' := []) (L' := [some (.inr (.inr l0)), some (.inl ((-2)))]) (m' := (148, 0)) rfl rfl rfl rfl rfl rfl h) (fun h2 => ?_)
    refine bi_cg (fun z2 ω2 => ?_)
    exact rr_ireturn rfl rfl
  · refine Eq.trans (rr_iload_n rfl rfl) ?_
    refine Eq.trans (rr_iconst rfl rfl) ?_
    refine Eq.trans (rr_bipush rfl rfl) ?_
    refine Eq.trans (rr_invS2i (S' := []) (L' := [some (.inl l2), some (.inl 1), some (.inl 9)]) (m' := (149, 0)) rfl rfl rfl rfl rfl rfl) ?_
    refine bi_cg (fun z3 ω3 => ?_)
    refine Eq.trans (rr_if_ne rfl rfl) (it_cg (fun _ => ?_) (fun _ => ?_))
    · refine Eq.trans (rr_aload_n rfl rfl) ?_
      refine ck_it (fun h => rr_getfr rfl rfl rfl h) (fun h => rr_getfield_no rfl rfl h) (fun h3 => ?_)
      refine Eq.trans (rr_iload_n rfl rfl) ?_
      refine ck_it (fun h => rr_iaload rfl rfl h) (fun h => rr_iaload_no rfl rfl h) (fun h4 => ?_)
      refine Eq.trans (rr_istore_n (L' := [some (.inr (.inr l0)), some (.inl l1), some (.inl l2), some (.inl (am_get ω3 (am_get ω3 l0.toNat 5).toNat l1.toNat))]) rfl rfl) ?_
      refine Eq.trans (rr_aload_n rfl rfl) ?_
      refine Eq.trans (rr_getfr rfl rfl rfl h3) ?_
      refine Eq.trans (rr_iload_n rfl rfl) ?_
      refine Eq.trans (rr_iload_n rfl rfl) ?_
      refine Eq.trans (rr_iastore rfl h4) ?_
      refine Eq.trans (rr_iload_n rfl rfl) ?_
      exact rr_ireturn rfl rfl
    · refine Eq.trans (rr_aload_n rfl rfl) ?_
      refine Eq.trans (rr_bipush rfl rfl) ?_
      refine ck_it (fun h => rr_invV0i (S' := []) (L' := [some (.inr (.inr l0)), some (.inl ((-2)))]) (m' := (148, 0)) rfl rfl rfl rfl rfl rfl h) (fun h => rr_invV0_no (S' := []) (L' := [some (.inr (.inr l0)), some (.inl ((-2)))]) (m' := (148, 0)) rfl rfl rfl rfl rfl rfl h) (fun h5 => ?_)
      refine bi_cg (fun z4 ω4 => ?_)
      exact rr_ireturn rfl rfl
theorem pX7_newShip_0 (l0 l1 l2 l3 l4 : Int) (ω : am_W) (h1 : am_is ω l0 (7, 30) = true) : am_run (168, 0) 0 ([some (.inr (.inr l0)), some (.inl l1), some (.inl l2), some (.inl l3), some (.inl l4)], [], ω) = if am_in ω (am_get ω l0.toNat 7) 100 (am_get ω l0.toNat 6) = true then (if am_in (am_put ω (am_get ω l0.toNat 7).toNat (am_get ω l0.toNat 6).toNat l1) (am_get (am_put ω (am_get ω l0.toNat 7).toNat (am_get ω l0.toNat 6).toNat l1) l0.toNat 8) 100 (am_get (am_put ω (am_get ω l0.toNat 7).toNat (am_get ω l0.toNat 6).toNat l1) l0.toNat 6) = true then (am_run (168, 0) 20 ([some (.inr (.inr l0)), some (.inl l1), some (.inl l2), some (.inl l3), some (.inl l4)], [], am_put (am_put ω (am_get ω l0.toNat 7).toNat (am_get ω l0.toNat 6).toNat l1) (am_get (am_put ω (am_get ω l0.toNat 7).toNat (am_get ω l0.toNat 6).toNat l1) l0.toNat 8).toNat (am_get (am_put ω (am_get ω l0.toNat 7).toNat (am_get ω l0.toNat 6).toNat l1) l0.toNat 6).toNat l2)) else none) else none := by
  refine Eq.trans (rr_aload_n rfl rfl) ?_
  refine Eq.trans (rr_getfr rfl rfl rfl h1) ?_
  refine Eq.trans (rr_aload_n rfl rfl) ?_
  refine Eq.trans (rr_getfi rfl rfl rfl h1) ?_
  refine Eq.trans (rr_iload_n rfl rfl) ?_
  refine ck_it (fun h => rr_iastore rfl h) (fun h => rr_iastore_no rfl h) (fun h2 => ?_)
  refine Eq.trans (rr_aload_n rfl rfl) ?_
  refine Eq.trans (rr_getfr rfl rfl rfl h1) ?_
  refine Eq.trans (rr_aload_n rfl rfl) ?_
  refine Eq.trans (rr_getfi rfl rfl rfl h1) ?_
  refine Eq.trans (rr_iload_n rfl rfl) ?_
  refine ck_it (fun h => rr_iastore rfl h) (fun h => rr_iastore_no rfl h) (fun h3 => ?_)
  rfl
theorem pX7_newShip_20 (l0 l1 l2 l3 l4 : Int) (ω : am_W) (h1 : am_is ω l0 (7, 30) = true) : am_run (168, 0) 20 ([some (.inr (.inr l0)), some (.inl l1), some (.inl l2), some (.inl l3), some (.inl l4)], [], ω) = if am_in ω (am_get ω l0.toNat 9) 100 (am_get ω l0.toNat 6) = true then (if am_in (am_put ω (am_get ω l0.toNat 9).toNat (am_get ω l0.toNat 6).toNat l3) (am_get (am_put ω (am_get ω l0.toNat 9).toNat (am_get ω l0.toNat 6).toNat l3) l0.toNat 10) 100 (am_get (am_put ω (am_get ω l0.toNat 9).toNat (am_get ω l0.toNat 6).toNat l3) l0.toNat 6) = true then (am_run (168, 0) 41 ([some (.inr (.inr l0)), some (.inl l1), some (.inl l2), some (.inl l3), some (.inl l4)], [], am_put (am_put ω (am_get ω l0.toNat 9).toNat (am_get ω l0.toNat 6).toNat l3) (am_get (am_put ω (am_get ω l0.toNat 9).toNat (am_get ω l0.toNat 6).toNat l3) l0.toNat 10).toNat (am_get (am_put ω (am_get ω l0.toNat 9).toNat (am_get ω l0.toNat 6).toNat l3) l0.toNat 6).toNat l4)) else none) else none := by
  refine Eq.trans (rr_aload_n rfl rfl) ?_
  refine Eq.trans (rr_getfr rfl rfl rfl h1) ?_
  refine Eq.trans (rr_aload_n rfl rfl) ?_
  refine Eq.trans (rr_getfi rfl rfl rfl h1) ?_
  refine Eq.trans (rr_iload_n rfl rfl) ?_
  refine ck_it (fun h => rr_iastore rfl h) (fun h => rr_iastore_no rfl h) (fun h2 => ?_)
  refine Eq.trans (rr_aload_n rfl rfl) ?_
  refine Eq.trans (rr_getfr rfl rfl rfl h1) ?_
  refine Eq.trans (rr_aload_n rfl rfl) ?_
  refine Eq.trans (rr_getfi rfl rfl rfl h1) ?_
  refine Eq.trans (rr_iload rfl rfl) ?_
  refine ck_it (fun h => rr_iastore rfl h) (fun h => rr_iastore_no rfl h) (fun h3 => ?_)
  rfl
theorem pX7_newShip_41 (l0 l1 l2 l3 l4 : Int) (ω : am_W) (h1 : am_is ω l0 (7, 30) = true) : am_run (168, 0) 41 ([some (.inr (.inr l0)), some (.inl l1), some (.inl l2), some (.inl l3), some (.inl l4)], [], ω) = if am_in ω (am_get ω l0.toNat 11) 100 (am_get ω l0.toNat 6) = true then (some (some (.inl (am_get (am_put ω (am_get ω l0.toNat 11).toNat (am_get ω l0.toNat 6).toNat 0) l0.toNat 6)), am_put (am_put ω (am_get ω l0.toNat 11).toNat (am_get ω l0.toNat 6).toNat 0) l0.toNat 6 (am_w ((am_get (am_put ω (am_get ω l0.toNat 11).toNat (am_get ω l0.toNat 6).toNat 0) l0.toNat 6) + 1)))) else none := by
  refine Eq.trans (rr_aload_n rfl rfl) ?_
  refine Eq.trans (rr_getfr rfl rfl rfl h1) ?_
  refine Eq.trans (rr_aload_n rfl rfl) ?_
  refine Eq.trans (rr_getfi rfl rfl rfl h1) ?_
  refine Eq.trans (rr_iconst rfl rfl) ?_
  refine ck_it (fun h => rr_iastore rfl h) (fun h => rr_iastore_no rfl h) (fun h2 => ?_)
  refine Eq.trans (rr_aload_n rfl rfl) ?_
  refine Eq.trans (rr_dupr rfl) ?_
  refine Eq.trans (rr_getfi rfl rfl rfl h1) ?_
  refine Eq.trans (rr_dup_x1 rfl) ?_
  refine Eq.trans (rr_iconst rfl rfl) ?_
  refine Eq.trans (rr_iadd rfl) ?_
  refine Eq.trans (rr_putfieldi rfl rfl rfl h1) ?_
  exact rr_ireturn rfl rfl
theorem pX7_ship_0 (l0 l1 l2 l3 l4 : Int) (ω : am_W) : am_run (169, 0) 0 ([some (.inr (.inr l0)), some (.inl l1), some (.inl l2), some (.inl l3), some (.inl l4)], [], ω) = am_bi (am_run (149, 0) 0 ([some (.inl l1), some (.inl 0), some (.inl 5)], [], ω)) (fun z1 ω1 => if z1 = 0 then (if am_is ω1 l0 (7, 30) = true then (am_bi (am_run (148, 0) 0 ([some (.inr (.inr l0)), some (.inl ((-2)))], [], ω1)) (fun z2 ω2 => some (some (.inl z2), ω2))) else none) else (if am_is ω1 l0 (7, 30) = true then (am_bi (am_run (153, 0) 0 ([some (.inr (.inr l0)), some (.inl l2)], [], ω1)) (fun z3 ω3 => if z3 = 0 then (if am_is ω3 l0 (7, 30) = true then (am_bi (am_run (148, 0) 0 ([some (.inr (.inr l0)), some (.inl ((-2)))], [], ω3)) (fun z4 ω4 => some (some (.inl z4), ω4))) else none) else (if am_is ω3 l0 (7, 30) = true then (if am_in ω3 (am_get ω3 l0.toNat 4) 100 l2 = true then (am_bi (am_run (149, 0) 0 ([some (.inl l3), some (.inl 0), some (.inl (am_w ((am_get ω3 (am_get ω3 l0.toNat 4).toNat l2.toNat) - 1)))], [], ω3)) (fun z5 ω5 => if z5 = 0 then (if am_is ω5 l0 (7, 30) = true then (am_bi (am_run (148, 0) 0 ([some (.inr (.inr l0)), some (.inl ((-2)))], [], ω5)) (fun z6 ω6 => some (some (.inl z6), ω6))) else none) else (am_bi (am_run (149, 0) 0 ([some (.inl l4), some (.inl 0), some (.inl 99)], [], ω5)) (fun z7 ω7 => if ¬ z7 = 0 then (if am_is ω7 l0 (7, 30) = true then (if ¬ (am_get ω7 l0.toNat 6) = 6 then (am_bi (am_run (168, 0) 0 ([some (.inr (.inr l0)), some (.inl l1), some (.inl l2), some (.inl l3), some (.inl l4)], [], ω7)) (fun z8 ω8 => some (some (.inl z8), ω8))) else (am_bi (am_run (148, 0) 0 ([some (.inr (.inr l0)), some (.inl ((-6)))], [], ω7)) (fun z9 ω9 => some (some (.inl z9), ω9)))) else none) else (if am_is ω7 l0 (7, 30) = true then (am_bi (am_run (148, 0) 0 ([some (.inr (.inr l0)), some (.inl ((-2)))], [], ω7)) (fun z10 ω10 => some (some (.inl z10), ω10))) else none))))) else none) else none))) else none)) := by
  refine Eq.trans (rr_iload_n rfl rfl) ?_
  refine Eq.trans (rr_iconst rfl rfl) ?_
  refine Eq.trans (rr_iconst rfl rfl) ?_
  refine Eq.trans (rr_invS2i (S' := []) (L' := [some (.inl l1), some (.inl 0), some (.inl 5)]) (m' := (149, 0)) rfl rfl rfl rfl rfl rfl) ?_
  refine bi_cg (fun z1 ω1 => ?_)
  refine Eq.trans (rr_if_eq rfl rfl) (it_cg (fun _ => ?_) (fun _ => ?_))
  · refine Eq.trans (rr_aload_n rfl rfl) ?_
    refine Eq.trans (rr_bipush rfl rfl) ?_
    refine ck_it (fun h => rr_invV0i (S' := []) (L' := [some (.inr (.inr l0)), some (.inl ((-2)))]) (m' := (148, 0)) rfl rfl rfl rfl rfl rfl h) (fun h => rr_invV0_no (S' := []) (L' := [some (.inr (.inr l0)), some (.inl ((-2)))]) (m' := (148, 0)) rfl rfl rfl rfl rfl rfl h) (fun h1 => ?_)
    refine bi_cg (fun z2 ω2 => ?_)
    exact rr_ireturn rfl rfl
  · refine Eq.trans (rr_aload_n rfl rfl) ?_
    refine Eq.trans (rr_iload_n rfl rfl) ?_
    refine ck_it (fun h => rr_invV0i (S' := []) (L' := [some (.inr (.inr l0)), some (.inl l2)]) (m' := (153, 0)) rfl rfl rfl rfl rfl rfl h) (fun h => rr_invV0_no (S' := []) (L' := [some (.inr (.inr l0)), some (.inl l2)]) (m' := (153, 0)) rfl rfl rfl rfl rfl rfl h) (fun h2 => ?_)
    refine bi_cg (fun z3 ω3 => ?_)
    refine Eq.trans (rr_if_eq rfl rfl) (it_cg (fun _ => ?_) (fun _ => ?_))
    · refine Eq.trans (rr_aload_n rfl rfl) ?_
      refine Eq.trans (rr_bipush rfl rfl) ?_
      refine ck_it (fun h => rr_invV0i (S' := []) (L' := [some (.inr (.inr l0)), some (.inl ((-2)))]) (m' := (148, 0)) rfl rfl rfl rfl rfl rfl h) (fun h => rr_invV0_no (S' := []) (L' := [some (.inr (.inr l0)), some (.inl ((-2)))]) (m' := (148, 0)) rfl rfl rfl rfl rfl rfl h) (fun h3 => ?_)
      refine bi_cg (fun z4 ω4 => ?_)
      exact rr_ireturn rfl rfl
    · refine Eq.trans (rr_iload_n rfl rfl) ?_
      refine Eq.trans (rr_iconst rfl rfl) ?_
      refine Eq.trans (rr_aload_n rfl rfl) ?_
      refine ck_it (fun h => rr_getfr rfl rfl rfl h) (fun h => rr_getfield_no rfl rfl h) (fun h4 => ?_)
      refine Eq.trans (rr_iload_n rfl rfl) ?_
      refine ck_it (fun h => rr_iaload rfl rfl h) (fun h => rr_iaload_no rfl rfl h) (fun h5 => ?_)
      refine Eq.trans (rr_iconst rfl rfl) ?_
      refine Eq.trans (rr_isub rfl) ?_
      refine Eq.trans (rr_invS2i (S' := []) (L' := [some (.inl l3), some (.inl 0), some (.inl (am_w ((am_get ω3 (am_get ω3 l0.toNat 4).toNat l2.toNat) - 1)))]) (m' := (149, 0)) rfl rfl rfl rfl rfl rfl) ?_
      refine bi_cg (fun z5 ω5 => ?_)
      refine Eq.trans (rr_if_eq rfl rfl) (it_cg (fun _ => ?_) (fun _ => ?_))
      · refine Eq.trans (rr_aload_n rfl rfl) ?_
        refine Eq.trans (rr_bipush rfl rfl) ?_
        refine ck_it (fun h => rr_invV0i (S' := []) (L' := [some (.inr (.inr l0)), some (.inl ((-2)))]) (m' := (148, 0)) rfl rfl rfl rfl rfl rfl h) (fun h => rr_invV0_no (S' := []) (L' := [some (.inr (.inr l0)), some (.inl ((-2)))]) (m' := (148, 0)) rfl rfl rfl rfl rfl rfl h) (fun h6 => ?_)
        refine bi_cg (fun z6 ω6 => ?_)
        exact rr_ireturn rfl rfl
      · refine Eq.trans (rr_iload rfl rfl) ?_
        refine Eq.trans (rr_iconst rfl rfl) ?_
        refine Eq.trans (rr_bipush rfl rfl) ?_
        refine Eq.trans (rr_invS2i (S' := []) (L' := [some (.inl l4), some (.inl 0), some (.inl 99)]) (m' := (149, 0)) rfl rfl rfl rfl rfl rfl) ?_
        refine bi_cg (fun z7 ω7 => ?_)
        refine Eq.trans (rr_if_ne rfl rfl) (it_cg (fun _ => ?_) (fun _ => ?_))
        · refine Eq.trans (rr_aload_n rfl rfl) ?_
          refine ck_it (fun h => rr_getfi rfl rfl rfl h) (fun h => rr_getfield_no rfl rfl h) (fun h7 => ?_)
          refine Eq.trans (rr_bipush rfl rfl) ?_
          refine Eq.trans (rr_icmp_ne rfl rfl) (it_cg (fun _ => ?_) (fun _ => ?_))
          · refine Eq.trans (rr_aload_n rfl rfl) ?_
            refine Eq.trans (rr_iload_n rfl rfl) ?_
            refine Eq.trans (rr_iload_n rfl rfl) ?_
            refine Eq.trans (rr_iload_n rfl rfl) ?_
            refine Eq.trans (rr_iload rfl rfl) ?_
            refine Eq.trans (rr_invV0i (S' := []) (L' := [some (.inr (.inr l0)), some (.inl l1), some (.inl l2), some (.inl l3), some (.inl l4)]) (m' := (168, 0)) rfl rfl rfl rfl rfl rfl h7) ?_
            refine bi_cg (fun z8 ω8 => ?_)
            exact rr_ireturn rfl rfl
          · refine Eq.trans (rr_aload_n rfl rfl) ?_
            refine Eq.trans (rr_bipush rfl rfl) ?_
            refine Eq.trans (rr_invV0i (S' := []) (L' := [some (.inr (.inr l0)), some (.inl ((-6)))]) (m' := (148, 0)) rfl rfl rfl rfl rfl rfl h7) ?_
            refine bi_cg (fun z9 ω9 => ?_)
            refine Eq.trans (rr_goto rfl rfl) ?_
            exact rr_ireturn rfl rfl
        · refine Eq.trans (rr_aload_n rfl rfl) ?_
          refine Eq.trans (rr_bipush rfl rfl) ?_
          refine ck_it (fun h => rr_invV0i (S' := []) (L' := [some (.inr (.inr l0)), some (.inl ((-2)))]) (m' := (148, 0)) rfl rfl rfl rfl rfl rfl h) (fun h => rr_invV0_no (S' := []) (L' := [some (.inr (.inr l0)), some (.inl ((-2)))]) (m' := (148, 0)) rfl rfl rfl rfl rfl rfl h) (fun h8 => ?_)
          refine bi_cg (fun z10 ω10 => ?_)
          exact rr_ireturn rfl rfl
theorem pX7_fill_0 (l0 l1 l2 : Int) (ω : am_W) (h1 : am_is ω l0 (7, 30) = true) : am_run (170, 0) 0 ([some (.inr (.inr l0)), some (.inl l1), some (.inl l2), none], [], ω) = am_bi (am_run (151, 0) 0 ([some (.inr (.inr l0)), some (.inl l1)], [], ω)) (fun z1 ω1 => if z1 = 0 then (if am_is ω1 l0 (7, 30) = true then (am_bi (am_run (148, 0) 0 ([some (.inr (.inr l0)), some (.inl ((-2)))], [], ω1)) (fun z2 ω2 => some (some (.inl z2), ω2))) else none) else (am_bi (am_run (149, 0) 0 ([some (.inl l2), some (.inl 0), some (.inl 99)], [], ω1)) (fun z3 ω3 => if ¬ z3 = 0 then (if am_is ω3 l0 (7, 30) = true then (if am_in ω3 (am_get ω3 l0.toNat 10) 100 l1 = true then (some (some (.inl (am_get ω3 (am_get ω3 l0.toNat 10).toNat l1.toNat)), am_put ω3 (am_get ω3 l0.toNat 10).toNat l1.toNat l2)) else none) else none) else (if am_is ω3 l0 (7, 30) = true then (am_bi (am_run (148, 0) 0 ([some (.inr (.inr l0)), some (.inl ((-2)))], [], ω3)) (fun z4 ω4 => some (some (.inl z4), ω4))) else none)))) := by
  refine Eq.trans (rr_aload_n rfl rfl) ?_
  refine Eq.trans (rr_iload_n rfl rfl) ?_
  refine Eq.trans (rr_invV0i (S' := []) (L' := [some (.inr (.inr l0)), some (.inl l1)]) (m' := (151, 0)) rfl rfl rfl rfl rfl rfl h1) ?_
  refine bi_cg (fun z1 ω1 => ?_)
  refine Eq.trans (rr_if_eq rfl rfl) (it_cg (fun _ => ?_) (fun _ => ?_))
  · refine Eq.trans (rr_aload_n rfl rfl) ?_
    refine Eq.trans (rr_bipush rfl rfl) ?_
    refine ck_it (fun h => rr_invV0i (S' := []) (L' := [some (.inr (.inr l0)), some (.inl ((-2)))]) (m' := (148, 0)) rfl rfl rfl rfl rfl rfl h) (fun h => rr_invV0_no (S' := []) (L' := [some (.inr (.inr l0)), some (.inl ((-2)))]) (m' := (148, 0)) rfl rfl rfl rfl rfl rfl h) (fun h2 => ?_)
    refine bi_cg (fun z2 ω2 => ?_)
    exact rr_ireturn rfl rfl
  · refine Eq.trans (rr_iload_n rfl rfl) ?_
    refine Eq.trans (rr_iconst rfl rfl) ?_
    refine Eq.trans (rr_bipush rfl rfl) ?_
    refine Eq.trans (rr_invS2i (S' := []) (L' := [some (.inl l2), some (.inl 0), some (.inl 99)]) (m' := (149, 0)) rfl rfl rfl rfl rfl rfl) ?_
    refine bi_cg (fun z3 ω3 => ?_)
    refine Eq.trans (rr_if_ne rfl rfl) (it_cg (fun _ => ?_) (fun _ => ?_))
    · refine Eq.trans (rr_aload_n rfl rfl) ?_
      refine ck_it (fun h => rr_getfr rfl rfl rfl h) (fun h => rr_getfield_no rfl rfl h) (fun h3 => ?_)
      refine Eq.trans (rr_iload_n rfl rfl) ?_
      refine ck_it (fun h => rr_iaload rfl rfl h) (fun h => rr_iaload_no rfl rfl h) (fun h4 => ?_)
      refine Eq.trans (rr_istore_n (L' := [some (.inr (.inr l0)), some (.inl l1), some (.inl l2), some (.inl (am_get ω3 (am_get ω3 l0.toNat 10).toNat l1.toNat))]) rfl rfl) ?_
      refine Eq.trans (rr_aload_n rfl rfl) ?_
      refine Eq.trans (rr_getfr rfl rfl rfl h3) ?_
      refine Eq.trans (rr_iload_n rfl rfl) ?_
      refine Eq.trans (rr_iload_n rfl rfl) ?_
      refine Eq.trans (rr_iastore rfl h4) ?_
      refine Eq.trans (rr_iload_n rfl rfl) ?_
      exact rr_ireturn rfl rfl
    · refine Eq.trans (rr_aload_n rfl rfl) ?_
      refine Eq.trans (rr_bipush rfl rfl) ?_
      refine ck_it (fun h => rr_invV0i (S' := []) (L' := [some (.inr (.inr l0)), some (.inl ((-2)))]) (m' := (148, 0)) rfl rfl rfl rfl rfl rfl h) (fun h => rr_invV0_no (S' := []) (L' := [some (.inr (.inr l0)), some (.inl ((-2)))]) (m' := (148, 0)) rfl rfl rfl rfl rfl rfl h) (fun h5 => ?_)
      refine bi_cg (fun z4 ω4 => ?_)
      exact rr_ireturn rfl rfl
theorem pX7_feed_0 (l0 l1 : Int) (ω : am_W) : am_run (171, 0) 0 ([some (.inr (.inr l0)), some (.inl l1)], [], ω) = am_bi (am_run (149, 0) 0 ([some (.inl l1), some (.inl 0), some (.inl 255)], [], ω)) (fun z1 ω1 => if ¬ z1 = 0 then (if am_is ω1 l0 (7, 30) = true then (if ¬ (am_get ω1 l0.toNat 15) = 250 then (if am_in (am_put ω1 l0.toNat 15 (am_w ((am_get ω1 l0.toNat 15) + 1))) (am_get ω1 l0.toNat 16) 100 (am_get ω1 l0.toNat 15) = true then (some (some (.inl (am_get (am_put (am_put ω1 l0.toNat 15 (am_w ((am_get ω1 l0.toNat 15) + 1))) (am_get ω1 l0.toNat 16).toNat (am_get ω1 l0.toNat 15).toNat l1) l0.toNat 15)), am_put (am_put ω1 l0.toNat 15 (am_w ((am_get ω1 l0.toNat 15) + 1))) (am_get ω1 l0.toNat 16).toNat (am_get ω1 l0.toNat 15).toNat l1)) else none) else (am_bi (am_run (148, 0) 0 ([some (.inr (.inr l0)), some (.inl ((-6)))], [], ω1)) (fun z2 ω2 => some (some (.inl z2), ω2)))) else none) else (if am_is ω1 l0 (7, 30) = true then (am_bi (am_run (148, 0) 0 ([some (.inr (.inr l0)), some (.inl ((-2)))], [], ω1)) (fun z3 ω3 => some (some (.inl z3), ω3))) else none)) := by
  refine Eq.trans (rr_iload_n rfl rfl) ?_
  refine Eq.trans (rr_iconst rfl rfl) ?_
  refine Eq.trans (rr_sipush rfl rfl) ?_
  refine Eq.trans (rr_invS2i (S' := []) (L' := [some (.inl l1), some (.inl 0), some (.inl 255)]) (m' := (149, 0)) rfl rfl rfl rfl rfl rfl) ?_
  refine bi_cg (fun z1 ω1 => ?_)
  refine Eq.trans (rr_if_ne rfl rfl) (it_cg (fun _ => ?_) (fun _ => ?_))
  · refine Eq.trans (rr_aload_n rfl rfl) ?_
    refine ck_it (fun h => rr_getfi rfl rfl rfl h) (fun h => rr_getfield_no rfl rfl h) (fun h1 => ?_)
    refine Eq.trans (rr_sipush rfl rfl) ?_
    refine Eq.trans (rr_icmp_ne rfl rfl) (it_cg (fun _ => ?_) (fun _ => ?_))
    · refine Eq.trans (rr_aload_n rfl rfl) ?_
      refine Eq.trans (rr_getfr rfl rfl rfl h1) ?_
      refine Eq.trans (rr_aload_n rfl rfl) ?_
      refine Eq.trans (rr_dupr rfl) ?_
      refine Eq.trans (rr_getfi rfl rfl rfl h1) ?_
      refine Eq.trans (rr_dup_x1 rfl) ?_
      refine Eq.trans (rr_iconst rfl rfl) ?_
      refine Eq.trans (rr_iadd rfl) ?_
      refine Eq.trans (rr_putfieldi rfl rfl rfl h1) ?_
      refine Eq.trans (rr_iload_n rfl rfl) ?_
      refine ck_it (fun h => rr_iastore rfl h) (fun h => rr_iastore_no rfl h) (fun h2 => ?_)
      refine Eq.trans (rr_aload_n rfl rfl) ?_
      refine Eq.trans (rr_getfi rfl rfl rfl h1) ?_
      exact rr_ireturn rfl rfl
    · refine Eq.trans (rr_aload_n rfl rfl) ?_
      refine Eq.trans (rr_bipush rfl rfl) ?_
      refine Eq.trans (rr_invV0i (S' := []) (L' := [some (.inr (.inr l0)), some (.inl ((-6)))]) (m' := (148, 0)) rfl rfl rfl rfl rfl rfl h1) ?_
      refine bi_cg (fun z2 ω2 => ?_)
      exact rr_ireturn rfl rfl
  · refine Eq.trans (rr_aload_n rfl rfl) ?_
    refine Eq.trans (rr_bipush rfl rfl) ?_
    refine ck_it (fun h => rr_invV0i (S' := []) (L' := [some (.inr (.inr l0)), some (.inl ((-2)))]) (m' := (148, 0)) rfl rfl rfl rfl rfl rfl h) (fun h => rr_invV0_no (S' := []) (L' := [some (.inr (.inr l0)), some (.inl ((-2)))]) (m' := (148, 0)) rfl rfl rfl rfl rfl rfl h) (fun h3 => ?_)
    refine bi_cg (fun z3 ω3 => ?_)
    exact rr_ireturn rfl rfl
theorem pX7_wipe_0 (l0 : Int) (ω : am_W) (h1 : am_is ω l0 (7, 30) = true) : am_run (172, 0) 0 ([some (.inr (.inr l0)), none], [], ω) = some (some (.inl (am_get ω l0.toNat 15)), am_put ω l0.toNat 15 0) := by
  refine Eq.trans (rr_aload_n rfl rfl) ?_
  refine Eq.trans (rr_getfi rfl rfl rfl h1) ?_
  refine Eq.trans (rr_istore_n (L' := [some (.inr (.inr l0)), some (.inl (am_get ω l0.toNat 15))]) rfl rfl) ?_
  refine Eq.trans (rr_aload_n rfl rfl) ?_
  refine Eq.trans (rr_iconst rfl rfl) ?_
  refine Eq.trans (rr_putfieldi rfl rfl rfl h1) ?_
  refine Eq.trans (rr_iload_n rfl rfl) ?_
  exact rr_ireturn rfl rfl
theorem pX7_isLetter_0 (l0 : Int) (ω : am_W) : am_run (173, 0) 0 ([some (.inl l0)], [], ω) = if l0 < 97 then (some (some (.inl 0), ω)) else (if 122 < l0 then (some (some (.inl 0), ω)) else (some (some (.inl 1), ω))) := by
  refine Eq.trans (rr_iload_n rfl rfl) ?_
  refine Eq.trans (rr_bipush rfl rfl) ?_
  refine Eq.trans (rr_icmp_lt rfl rfl) (it_cg (fun _ => ?_) (fun _ => ?_))
  · refine Eq.trans (rr_iconst rfl rfl) ?_
    exact rr_ireturn rfl rfl
  · refine Eq.trans (rr_iload_n rfl rfl) ?_
    refine Eq.trans (rr_bipush rfl rfl) ?_
    refine Eq.trans (rr_icmp_gt rfl rfl) (it_cg (fun _ => ?_) (fun _ => ?_))
    · refine Eq.trans (rr_iconst rfl rfl) ?_
      exact rr_ireturn rfl rfl
    · refine Eq.trans (rr_iconst rfl rfl) ?_
      refine Eq.trans (rr_goto rfl rfl) ?_
      exact rr_ireturn rfl rfl
theorem pX7_isDigit_0 (l0 : Int) (ω : am_W) : am_run (174, 0) 0 ([some (.inl l0)], [], ω) = if l0 < 48 then (some (some (.inl 0), ω)) else (if 57 < l0 then (some (some (.inl 0), ω)) else (some (some (.inl 1), ω))) := by
  refine Eq.trans (rr_iload_n rfl rfl) ?_
  refine Eq.trans (rr_bipush rfl rfl) ?_
  refine Eq.trans (rr_icmp_lt rfl rfl) (it_cg (fun _ => ?_) (fun _ => ?_))
  · refine Eq.trans (rr_iconst rfl rfl) ?_
    exact rr_ireturn rfl rfl
  · refine Eq.trans (rr_iload_n rfl rfl) ?_
    refine Eq.trans (rr_bipush rfl rfl) ?_
    refine Eq.trans (rr_icmp_gt rfl rfl) (it_cg (fun _ => ?_) (fun _ => ?_))
    · refine Eq.trans (rr_iconst rfl rfl) ?_
      exact rr_ireturn rfl rfl
    · refine Eq.trans (rr_iconst rfl rfl) ?_
      refine Eq.trans (rr_goto rfl rfl) ?_
      exact rr_ireturn rfl rfl
theorem pX7_next_0 (l0 : Int) (ω : am_W) (h1 : am_is ω l0 (7, 30) = true) : am_run (175, 0) 0 ([some (.inr (.inr l0)), none], [], ω) = if (am_get ω l0.toNat 15) ≤ (am_get ω l0.toNat 17) then (am_run (175, 0) 38 ([some (.inr (.inr l0)), none], [], ω)) else (if am_in ω (am_get ω l0.toNat 16) 100 (am_get ω l0.toNat 17) = true then (if ¬ (am_get ω (am_get ω l0.toNat 16).toNat (am_get ω l0.toNat 17).toNat) = 32 then (am_run (175, 0) 38 ([some (.inr (.inr l0)), none], [], ω)) else (am_run (175, 0) 0 ([some (.inr (.inr l0)), none], [], am_put ω l0.toNat 17 (am_w ((am_get ω l0.toNat 17) + 1))))) else none) := by
  refine Eq.trans (rr_aload_n rfl rfl) ?_
  refine Eq.trans (rr_getfi rfl rfl rfl h1) ?_
  refine Eq.trans (rr_aload_n rfl rfl) ?_
  refine Eq.trans (rr_getfi rfl rfl rfl h1) ?_
  refine Eq.trans (rr_icmp_ge rfl rfl) (it_cg (fun _ => ?_) (fun _ => ?_))
  · rfl
  · refine Eq.trans (rr_aload_n rfl rfl) ?_
    refine Eq.trans (rr_getfr rfl rfl rfl h1) ?_
    refine Eq.trans (rr_aload_n rfl rfl) ?_
    refine Eq.trans (rr_getfi rfl rfl rfl h1) ?_
    refine ck_it (fun h => rr_iaload rfl rfl h) (fun h => rr_iaload_no rfl rfl h) (fun h2 => ?_)
    refine Eq.trans (rr_bipush rfl rfl) ?_
    refine Eq.trans (rr_icmp_ne rfl rfl) (it_cg (fun _ => ?_) (fun _ => ?_))
    · rfl
    · refine Eq.trans (rr_aload_n rfl rfl) ?_
      refine Eq.trans (rr_dupr rfl) ?_
      refine Eq.trans (rr_getfi rfl rfl rfl h1) ?_
      refine Eq.trans (rr_iconst rfl rfl) ?_
      refine Eq.trans (rr_iadd rfl) ?_
      refine Eq.trans (rr_putfieldi rfl rfl rfl h1) ?_
      refine Eq.trans (rr_goto rfl rfl) ?_
      rfl
theorem pX7_next_38 (l0 : Int) (o1 : Option am_V) (ω : am_W) (h1 : am_is ω l0 (7, 30) = true) : am_run (175, 0) 38 ([some (.inr (.inr l0)), o1], [], ω) = if ¬ (am_get (am_put ω l0.toNat 18 (am_get ω l0.toNat 17)) l0.toNat 17) = (am_get (am_put ω l0.toNat 18 (am_get ω l0.toNat 17)) l0.toNat 15) then (am_run (175, 0) 63 ([some (.inr (.inr l0)), o1], [], am_put ω l0.toNat 18 (am_get ω l0.toNat 17))) else (some (none, am_put (am_put ω l0.toNat 18 (am_get ω l0.toNat 17)) l0.toNat 19 0)) := by
  refine Eq.trans (rr_aload_n rfl rfl) ?_
  refine Eq.trans (rr_aload_n rfl rfl) ?_
  refine Eq.trans (rr_getfi rfl rfl rfl h1) ?_
  refine Eq.trans (rr_putfieldi rfl rfl rfl h1) ?_
  refine Eq.trans (rr_aload_n rfl rfl) ?_
  refine Eq.trans (rr_getfi rfl rfl rfl h1) ?_
  refine Eq.trans (rr_aload_n rfl rfl) ?_
  refine Eq.trans (rr_getfi rfl rfl rfl h1) ?_
  refine Eq.trans (rr_icmp_ne rfl rfl) (it_cg (fun _ => ?_) (fun _ => ?_))
  · rfl
  · refine Eq.trans (rr_aload_n rfl rfl) ?_
    refine Eq.trans (rr_iconst rfl rfl) ?_
    refine Eq.trans (rr_putfieldi rfl rfl rfl h1) ?_
    exact rr_return rfl rfl
theorem pX7_next_63 (l0 : Int) (o1 : Option am_V) (ω : am_W) (h1 : am_is ω l0 (7, 30) = true) : am_run (175, 0) 63 ([some (.inr (.inr l0)), o1], [], ω) = if am_in ω (am_get ω l0.toNat 16) 100 (am_get ω l0.toNat 17) = true then (am_bi (am_run (173, 0) 0 ([some (.inl (am_get ω (am_get ω l0.toNat 16).toNat (am_get ω l0.toNat 17).toNat))], [], ω)) (fun z1 ω1 => if z1 = 0 then (am_bi (am_run (174, 0) 0 ([some (.inl (am_get ω (am_get ω l0.toNat 16).toNat (am_get ω l0.toNat 17).toNat))], [], ω1)) (fun z2 ω2 => if z2 = 0 then (if ¬ (am_get ω (am_get ω l0.toNat 16).toNat (am_get ω l0.toNat 17).toNat) = 59 then (if am_is ω2 l0 (7, 30) = true then (am_run (175, 0) 255 ([some (.inr (.inr l0)), some (.inl (am_get ω (am_get ω l0.toNat 16).toNat (am_get ω l0.toNat 17).toNat))], [], am_put ω2 l0.toNat 19 ((-1)))) else none) else (if am_is ω2 l0 (7, 30) = true then (am_run (175, 0) 255 ([some (.inr (.inr l0)), some (.inl (am_get ω (am_get ω l0.toNat 16).toNat (am_get ω l0.toNat 17).toNat))], [], am_put ω2 l0.toNat 19 3)) else none)) else (if am_is ω2 l0 (7, 30) = true then (am_run (175, 0) 136 ([some (.inr (.inr l0)), some (.inl (am_get ω (am_get ω l0.toNat 16).toNat (am_get ω l0.toNat 17).toNat))], [], am_put ω2 l0.toNat 19 2)) else none))) else (if am_is ω1 l0 (7, 30) = true then (am_run (175, 0) 85 ([some (.inr (.inr l0)), some (.inl (am_get ω (am_get ω l0.toNat 16).toNat (am_get ω l0.toNat 17).toNat))], [], am_put ω1 l0.toNat 19 1)) else none))) else none := by
  refine Eq.trans (rr_aload_n rfl rfl) ?_
  refine Eq.trans (rr_getfr rfl rfl rfl h1) ?_
  refine Eq.trans (rr_aload_n rfl rfl) ?_
  refine Eq.trans (rr_getfi rfl rfl rfl h1) ?_
  refine ck_it (fun h => rr_iaload rfl rfl h) (fun h => rr_iaload_no rfl rfl h) (fun h2 => ?_)
  refine Eq.trans (rr_istore_n (L' := [some (.inr (.inr l0)), some (.inl (am_get ω (am_get ω l0.toNat 16).toNat (am_get ω l0.toNat 17).toNat))]) rfl rfl) ?_
  refine Eq.trans (rr_iload_n rfl rfl) ?_
  refine Eq.trans (rr_invS2i (S' := []) (L' := [some (.inl (am_get ω (am_get ω l0.toNat 16).toNat (am_get ω l0.toNat 17).toNat))]) (m' := (173, 0)) rfl rfl rfl rfl rfl rfl) ?_
  refine bi_cg (fun z1 ω1 => ?_)
  refine Eq.trans (rr_if_eq rfl rfl) (it_cg (fun _ => ?_) (fun _ => ?_))
  · refine Eq.trans (rr_iload_n rfl rfl) ?_
    refine Eq.trans (rr_invS2i (S' := []) (L' := [some (.inl (am_get ω (am_get ω l0.toNat 16).toNat (am_get ω l0.toNat 17).toNat))]) (m' := (174, 0)) rfl rfl rfl rfl rfl rfl) ?_
    refine bi_cg (fun z2 ω2 => ?_)
    refine Eq.trans (rr_if_eq rfl rfl) (it_cg (fun _ => ?_) (fun _ => ?_))
    · refine Eq.trans (rr_aload_n rfl rfl) ?_
      refine Eq.trans (rr_iload_n rfl rfl) ?_
      refine Eq.trans (rr_bipush rfl rfl) ?_
      refine Eq.trans (rr_icmp_ne rfl rfl) (it_cg (fun _ => ?_) (fun _ => ?_))
      · refine Eq.trans (rr_iconst rfl rfl) ?_
        refine ck_it (fun h => rr_putfieldi rfl rfl rfl h) (fun h => rr_putfieldi_no rfl rfl h) (fun h3 => ?_)
        rfl
      · refine Eq.trans (rr_iconst rfl rfl) ?_
        refine Eq.trans (rr_goto rfl rfl) ?_
        refine ck_it (fun h => rr_putfieldi rfl rfl rfl h) (fun h => rr_putfieldi_no rfl rfl h) (fun h4 => ?_)
        rfl
    · refine Eq.trans (rr_aload_n rfl rfl) ?_
      refine Eq.trans (rr_iconst rfl rfl) ?_
      refine ck_it (fun h => rr_putfieldi rfl rfl rfl h) (fun h => rr_putfieldi_no rfl rfl h) (fun h5 => ?_)
      rfl
  · refine Eq.trans (rr_aload_n rfl rfl) ?_
    refine Eq.trans (rr_iconst rfl rfl) ?_
    refine ck_it (fun h => rr_putfieldi rfl rfl rfl h) (fun h => rr_putfieldi_no rfl rfl h) (fun h6 => ?_)
    rfl
theorem pX7_next_85 (l0 l1 : Int) (ω : am_W) (h1 : am_is ω l0 (7, 30) = true) : am_run (175, 0) 85 ([some (.inr (.inr l0)), some (.inl l1)], [], ω) = if (am_get ω l0.toNat 15) ≤ (am_get ω l0.toNat 17) then (some (none, ω)) else (if am_in ω (am_get ω l0.toNat 16) 100 (am_get ω l0.toNat 17) = true then (am_bi (am_run (173, 0) 0 ([some (.inl (am_get ω (am_get ω l0.toNat 16).toNat (am_get ω l0.toNat 17).toNat))], [], ω)) (fun z1 ω1 => if z1 = 0 then (some (none, ω1)) else (if am_is ω1 l0 (7, 30) = true then (am_run (175, 0) 85 ([some (.inr (.inr l0)), some (.inl l1)], [], am_put ω1 l0.toNat 17 (am_w ((am_get ω1 l0.toNat 17) + 1)))) else none))) else none) := by
  refine Eq.trans (rr_aload_n rfl rfl) ?_
  refine Eq.trans (rr_getfi rfl rfl rfl h1) ?_
  refine Eq.trans (rr_aload_n rfl rfl) ?_
  refine Eq.trans (rr_getfi rfl rfl rfl h1) ?_
  refine Eq.trans (rr_icmp_ge rfl rfl) (it_cg (fun _ => ?_) (fun _ => ?_))
  · exact rr_return rfl rfl
  · refine Eq.trans (rr_aload_n rfl rfl) ?_
    refine Eq.trans (rr_getfr rfl rfl rfl h1) ?_
    refine Eq.trans (rr_aload_n rfl rfl) ?_
    refine Eq.trans (rr_getfi rfl rfl rfl h1) ?_
    refine ck_it (fun h => rr_iaload rfl rfl h) (fun h => rr_iaload_no rfl rfl h) (fun h2 => ?_)
    refine Eq.trans (rr_invS2i (S' := []) (L' := [some (.inl (am_get ω (am_get ω l0.toNat 16).toNat (am_get ω l0.toNat 17).toNat))]) (m' := (173, 0)) rfl rfl rfl rfl rfl rfl) ?_
    refine bi_cg (fun z1 ω1 => ?_)
    refine Eq.trans (rr_if_eq rfl rfl) (it_cg (fun _ => ?_) (fun _ => ?_))
    · exact rr_return rfl rfl
    · refine Eq.trans (rr_aload_n rfl rfl) ?_
      refine Eq.trans (rr_dupr rfl) ?_
      refine ck_it (fun h => rr_getfi rfl rfl rfl h) (fun h => rr_getfield_no rfl rfl h) (fun h3 => ?_)
      refine Eq.trans (rr_iconst rfl rfl) ?_
      refine Eq.trans (rr_iadd rfl) ?_
      refine Eq.trans (rr_putfieldi rfl rfl rfl h3) ?_
      refine Eq.trans (rr_goto rfl rfl) ?_
      rfl
theorem pX7_next_136 (l0 l1 : Int) (ω : am_W) (h1 : am_is ω l0 (7, 30) = true) : am_run (175, 0) 136 ([some (.inr (.inr l0)), some (.inl l1)], [], ω) = am_run (175, 0) 141 ([some (.inr (.inr l0)), some (.inl l1)], [], am_put ω l0.toNat 20 0) := by
  refine Eq.trans (rr_aload_n rfl rfl) ?_
  refine Eq.trans (rr_iconst rfl rfl) ?_
  refine Eq.trans (rr_putfieldi rfl rfl rfl h1) ?_
  rfl
theorem pX7_next_141 (l0 l1 : Int) (ω : am_W) (h1 : am_is ω l0 (7, 30) = true) : am_run (175, 0) 141 ([some (.inr (.inr l0)), some (.inl l1)], [], ω) = if (am_get ω l0.toNat 15) ≤ (am_get ω l0.toNat 17) then (am_run (175, 0) 217 ([some (.inr (.inr l0)), some (.inl l1)], [], ω)) else (if am_in ω (am_get ω l0.toNat 16) 100 (am_get ω l0.toNat 17) = true then (am_bi (am_run (174, 0) 0 ([some (.inl (am_get ω (am_get ω l0.toNat 16).toNat (am_get ω l0.toNat 17).toNat))], [], ω)) (fun z1 ω1 => if z1 = 0 then (am_run (175, 0) 217 ([some (.inr (.inr l0)), some (.inl l1)], [], ω1)) else (if am_is ω1 l0 (7, 30) = true then (if 3 ≤ (am_w ((am_get ω1 l0.toNat 17) - (am_get ω1 l0.toNat 18))) then (am_run (175, 0) 141 ([some (.inr (.inr l0)), some (.inl l1)], [], am_put ω1 l0.toNat 17 (am_w ((am_get ω1 l0.toNat 17) + 1)))) else (if am_in ω1 (am_get ω1 l0.toNat 16) 100 (am_get ω1 l0.toNat 17) = true then (am_run (175, 0) 141 ([some (.inr (.inr l0)), some (.inl l1)], [], am_put (am_put ω1 l0.toNat 20 (am_w ((am_w ((am_w (10 * (am_get ω1 l0.toNat 20))) + (am_get ω1 (am_get ω1 l0.toNat 16).toNat (am_get ω1 l0.toNat 17).toNat))) - 48))) l0.toNat 17 (am_w ((am_get (am_put ω1 l0.toNat 20 (am_w ((am_w ((am_w (10 * (am_get ω1 l0.toNat 20))) + (am_get ω1 (am_get ω1 l0.toNat 16).toNat (am_get ω1 l0.toNat 17).toNat))) - 48))) l0.toNat 17) + 1)))) else none)) else none))) else none) := by
  refine Eq.trans (rr_aload_n rfl rfl) ?_
  refine Eq.trans (rr_getfi rfl rfl rfl h1) ?_
  refine Eq.trans (rr_aload_n rfl rfl) ?_
  refine Eq.trans (rr_getfi rfl rfl rfl h1) ?_
  refine Eq.trans (rr_icmp_ge rfl rfl) (it_cg (fun _ => ?_) (fun _ => ?_))
  · rfl
  · refine Eq.trans (rr_aload_n rfl rfl) ?_
    refine Eq.trans (rr_getfr rfl rfl rfl h1) ?_
    refine Eq.trans (rr_aload_n rfl rfl) ?_
    refine Eq.trans (rr_getfi rfl rfl rfl h1) ?_
    refine ck_it (fun h => rr_iaload rfl rfl h) (fun h => rr_iaload_no rfl rfl h) (fun h2 => ?_)
    refine Eq.trans (rr_invS2i (S' := []) (L' := [some (.inl (am_get ω (am_get ω l0.toNat 16).toNat (am_get ω l0.toNat 17).toNat))]) (m' := (174, 0)) rfl rfl rfl rfl rfl rfl) ?_
    refine bi_cg (fun z1 ω1 => ?_)
    refine Eq.trans (rr_if_eq rfl rfl) (it_cg (fun _ => ?_) (fun _ => ?_))
    · rfl
    · refine Eq.trans (rr_aload_n rfl rfl) ?_
      refine ck_it (fun h => rr_getfi rfl rfl rfl h) (fun h => rr_getfield_no rfl rfl h) (fun h3 => ?_)
      refine Eq.trans (rr_aload_n rfl rfl) ?_
      refine Eq.trans (rr_getfi rfl rfl rfl h3) ?_
      refine Eq.trans (rr_isub rfl) ?_
      refine Eq.trans (rr_iconst rfl rfl) ?_
      refine Eq.trans (rr_icmp_ge rfl rfl) (it_cg (fun _ => ?_) (fun _ => ?_))
      · refine Eq.trans (rr_aload_n rfl rfl) ?_
        refine Eq.trans (rr_dupr rfl) ?_
        refine Eq.trans (rr_getfi rfl rfl rfl h3) ?_
        refine Eq.trans (rr_iconst rfl rfl) ?_
        refine Eq.trans (rr_iadd rfl) ?_
        refine Eq.trans (rr_putfieldi rfl rfl rfl h3) ?_
        refine Eq.trans (rr_goto rfl rfl) ?_
        rfl
      · refine Eq.trans (rr_aload_n rfl rfl) ?_
        refine Eq.trans (rr_bipush rfl rfl) ?_
        refine Eq.trans (rr_aload_n rfl rfl) ?_
        refine Eq.trans (rr_getfi rfl rfl rfl h3) ?_
        refine Eq.trans (rr_imul rfl) ?_
        refine Eq.trans (rr_aload_n rfl rfl) ?_
        refine Eq.trans (rr_getfr rfl rfl rfl h3) ?_
        refine Eq.trans (rr_aload_n rfl rfl) ?_
        refine Eq.trans (rr_getfi rfl rfl rfl h3) ?_
        refine ck_it (fun h => rr_iaload rfl rfl h) (fun h => rr_iaload_no rfl rfl h) (fun h4 => ?_)
        refine Eq.trans (rr_iadd rfl) ?_
        refine Eq.trans (rr_bipush rfl rfl) ?_
        refine Eq.trans (rr_isub rfl) ?_
        refine Eq.trans (rr_putfieldi rfl rfl rfl h3) ?_
        refine Eq.trans (rr_aload_n rfl rfl) ?_
        refine Eq.trans (rr_dupr rfl) ?_
        refine Eq.trans (rr_getfi rfl rfl rfl h3) ?_
        refine Eq.trans (rr_iconst rfl rfl) ?_
        refine Eq.trans (rr_iadd rfl) ?_
        refine Eq.trans (rr_putfieldi rfl rfl rfl h3) ?_
        refine Eq.trans (rr_goto rfl rfl) ?_
        rfl
theorem pX7_next_217 (l0 l1 : Int) (ω : am_W) (h1 : am_is ω l0 (7, 30) = true) : am_run (175, 0) 217 ([some (.inr (.inr l0)), some (.inl l1)], [], ω) = if (am_w ((am_get ω l0.toNat 17) - (am_get ω l0.toNat 18))) ≤ 2 then (some (none, ω)) else (some (none, am_put ω l0.toNat 20 1000)) := by
  refine Eq.trans (rr_aload_n rfl rfl) ?_
  refine Eq.trans (rr_getfi rfl rfl rfl h1) ?_
  refine Eq.trans (rr_aload_n rfl rfl) ?_
  refine Eq.trans (rr_getfi rfl rfl rfl h1) ?_
  refine Eq.trans (rr_isub rfl) ?_
  refine Eq.trans (rr_iconst rfl rfl) ?_
  refine Eq.trans (rr_icmp_le rfl rfl) (it_cg (fun _ => ?_) (fun _ => ?_))
  · exact rr_return rfl rfl
  · refine Eq.trans (rr_aload_n rfl rfl) ?_
    refine Eq.trans (rr_sipush rfl rfl) ?_
    refine Eq.trans (rr_putfieldi rfl rfl rfl h1) ?_
    refine Eq.trans (rr_goto rfl rfl) ?_
    exact rr_return rfl rfl
theorem pX7_next_255 (l0 l1 : Int) (ω : am_W) (h1 : am_is ω l0 (7, 30) = true) : am_run (175, 0) 255 ([some (.inr (.inr l0)), some (.inl l1)], [], ω) = some (none, am_put ω l0.toNat 17 (am_w ((am_get ω l0.toNat 17) + 1))) := by
  refine Eq.trans (rr_aload_n rfl rfl) ?_
  refine Eq.trans (rr_dupr rfl) ?_
  refine Eq.trans (rr_getfi rfl rfl rfl h1) ?_
  refine Eq.trans (rr_iconst rfl rfl) ?_
  refine Eq.trans (rr_iadd rfl) ?_
  refine Eq.trans (rr_putfieldi rfl rfl rfl h1) ?_
  exact rr_return rfl rfl
theorem pX7_isWord_0 (l0 l1 : Int) (ω : am_W) (h1 : am_is ω l0 (7, 30) = true) : am_run (176, 0) 0 ([some (.inr (.inr l0)), some (.inr (.inr l1)), none], [], ω) = if ¬ (am_get ω l0.toNat 19) = 1 then (some (some (.inl 0), ω)) else (if am_txok l1 = true then (if (am_w ((am_get ω l0.toNat 17) - (am_get ω l0.toNat 18))) = ((((am_texts.getD (-3 - l1).toNat []).length : Nat) : Int)) then (am_run (176, 0) 28 ([some (.inr (.inr l0)), some (.inr (.inr l1)), some (.inl 0)], [], ω)) else (some (some (.inl 0), ω))) else none) := by
  refine Eq.trans (rr_aload_n rfl rfl) ?_
  refine Eq.trans (rr_getfi rfl rfl rfl h1) ?_
  refine Eq.trans (rr_iconst rfl rfl) ?_
  refine Eq.trans (rr_icmp_ne rfl rfl) (it_cg (fun _ => ?_) (fun _ => ?_))
  · refine Eq.trans (rr_iconst rfl rfl) ?_
    exact rr_ireturn rfl rfl
  · refine Eq.trans (rr_aload_n rfl rfl) ?_
    refine Eq.trans (rr_getfi rfl rfl rfl h1) ?_
    refine Eq.trans (rr_aload_n rfl rfl) ?_
    refine Eq.trans (rr_getfi rfl rfl rfl h1) ?_
    refine Eq.trans (rr_isub rfl) ?_
    refine Eq.trans (rr_aload_n rfl rfl) ?_
    refine ck_it (fun h => rr_slen rfl rfl rfl rfl h) (fun h => rr_slen_no rfl rfl rfl rfl h) (fun h2 => ?_)
    refine Eq.trans (rr_icmp_eq rfl rfl) (it_cg (fun _ => ?_) (fun _ => ?_))
    · refine Eq.trans (rr_iconst rfl rfl) ?_
      refine Eq.trans (rr_istore_n (L' := [some (.inr (.inr l0)), some (.inr (.inr l1)), some (.inl 0)]) rfl rfl) ?_
      rfl
    · refine Eq.trans (rr_iconst rfl rfl) ?_
      exact rr_ireturn rfl rfl
theorem pX7_isWord_28 (l0 l1 l2 : Int) (ω : am_W) (h2 : am_is ω l0 (7, 30) = true) : am_run (176, 0) 28 ([some (.inr (.inr l0)), some (.inr (.inr l1)), some (.inl l2)], [], ω) = if am_txok l1 = true then (if ((((am_texts.getD (-3 - l1).toNat []).length : Nat) : Int)) ≤ l2 then (some (some (.inl 1), ω)) else (if am_in ω (am_get ω l0.toNat 16) 100 (am_w ((am_get ω l0.toNat 18) + l2)) = true then (if am_chok l1 l2 = true then (if (am_get ω (am_get ω l0.toNat 16).toNat (am_w ((am_get ω l0.toNat 18) + l2)).toNat) = ((am_texts.getD (-3 - l1).toNat []).getD l2.toNat 0) then (am_run (176, 0) 28 ([some (.inr (.inr l0)), some (.inr (.inr l1)), some (.inl (am_w (l2 + 1)))], [], ω)) else (some (some (.inl 0), ω))) else none) else none)) else none := by
  refine Eq.trans (rr_iload_n rfl rfl) ?_
  refine Eq.trans (rr_aload_n rfl rfl) ?_
  refine ck_it (fun h => rr_slen rfl rfl rfl rfl h) (fun h => rr_slen_no rfl rfl rfl rfl h) (fun h1 => ?_)
  refine Eq.trans (rr_icmp_ge rfl rfl) (it_cg (fun _ => ?_) (fun _ => ?_))
  · refine Eq.trans (rr_iconst rfl rfl) ?_
    exact rr_ireturn rfl rfl
  · refine Eq.trans (rr_aload_n rfl rfl) ?_
    refine Eq.trans (rr_getfr rfl rfl rfl h2) ?_
    refine Eq.trans (rr_aload_n rfl rfl) ?_
    refine Eq.trans (rr_getfi rfl rfl rfl h2) ?_
    refine Eq.trans (rr_iload_n rfl rfl) ?_
    refine Eq.trans (rr_iadd rfl) ?_
    refine ck_it (fun h => rr_iaload rfl rfl h) (fun h => rr_iaload_no rfl rfl h) (fun h3 => ?_)
    refine Eq.trans (rr_aload_n rfl rfl) ?_
    refine Eq.trans (rr_iload_n rfl rfl) ?_
    refine ck_it (fun h => rr_schr rfl rfl rfl rfl h) (fun h => rr_schr_no rfl rfl rfl rfl h) (fun h4 => ?_)
    refine Eq.trans (rr_icmp_eq rfl rfl) (it_cg (fun _ => ?_) (fun _ => ?_))
    · refine Eq.trans (rr_iinc (L' := [some (.inr (.inr l0)), some (.inr (.inr l1)), some (.inl (am_w (l2 + 1)))]) rfl rfl rfl) ?_
      refine Eq.trans (rr_goto rfl rfl) ?_
      rfl
    · refine Eq.trans (rr_iconst rfl rfl) ?_
      exact rr_ireturn rfl rfl
theorem pX7_number_0 (l0 l1 l2 : Int) (ω : am_W) (h1 : am_is ω l0 (7, 30) = true) : am_run (177, 0) 0 ([some (.inr (.inr l0)), some (.inl l1), some (.inl l2)], [], ω) = am_bv (am_run (175, 0) 0 ([some (.inr (.inr l0)), none], [], ω)) (fun ω1 => if am_is ω1 l0 (7, 30) = true then (if ¬ (am_get ω1 l0.toNat 19) = 2 then (some (some (.inl 0), ω1)) else (am_bi (am_run (149, 0) 0 ([some (.inl (am_get ω1 l0.toNat 20)), some (.inl l1), some (.inl l2)], [], ω1)) (fun z2 ω2 => if z2 = 0 then (some (some (.inl 0), ω2)) else (some (some (.inl 1), ω2))))) else none) := by
  refine Eq.trans (rr_aload_n rfl rfl) ?_
  refine Eq.trans (rr_invV0v (S' := []) (L' := [some (.inr (.inr l0)), none]) (m' := (175, 0)) rfl rfl rfl rfl rfl rfl h1) ?_
  refine bv_cg (fun ω1 => ?_)
  refine Eq.trans (rr_aload_n rfl rfl) ?_
  refine ck_it (fun h => rr_getfi rfl rfl rfl h) (fun h => rr_getfield_no rfl rfl h) (fun h2 => ?_)
  refine Eq.trans (rr_iconst rfl rfl) ?_
  refine Eq.trans (rr_icmp_ne rfl rfl) (it_cg (fun _ => ?_) (fun _ => ?_))
  · refine Eq.trans (rr_iconst rfl rfl) ?_
    exact rr_ireturn rfl rfl
  · refine Eq.trans (rr_aload_n rfl rfl) ?_
    refine Eq.trans (rr_getfi rfl rfl rfl h2) ?_
    refine Eq.trans (rr_iload_n rfl rfl) ?_
    refine Eq.trans (rr_iload_n rfl rfl) ?_
    refine Eq.trans (rr_invS2i (S' := []) (L' := [some (.inl (am_get ω1 l0.toNat 20)), some (.inl l1), some (.inl l2)]) (m' := (149, 0)) rfl rfl rfl rfl rfl rfl) ?_
    refine bi_cg (fun z2 ω2 => ?_)
    refine Eq.trans (rr_if_eq rfl rfl) (it_cg (fun _ => ?_) (fun _ => ?_))
    · refine Eq.trans (rr_iconst rfl rfl) ?_
      exact rr_ireturn rfl rfl
    · refine Eq.trans (rr_iconst rfl rfl) ?_
      refine Eq.trans (rr_goto rfl rfl) ?_
      exact rr_ireturn rfl rfl
theorem pX7_statement_0 (l0 : Int) (ω : am_W) (h1 : am_is ω l0 (7, 30) = true) : am_run (178, 0) 0 ([some (.inr (.inr l0)), none, none, none], [], ω) = am_bi (am_run (176, 0) 0 ([some (.inr (.inr l0)), some (.inr (.inr ((-3 - ((0 : Nat) : Int))))), none], [], ω)) (fun z1 ω1 => if z1 = 0 then (am_run (178, 0) 39 ([some (.inr (.inr l0)), none, none, none], [], ω1)) else (if am_is ω1 l0 (7, 30) = true then (if ¬ (am_get ω1 l0.toNat 6) = 0 then (am_run (178, 0) 39 ([some (.inr (.inr l0)), none, none, none], [], ω1)) else (am_bi (am_run (177, 0) 0 ([some (.inr (.inr l0)), some (.inl 2), some (.inl 6)], [], ω1)) (fun z2 ω2 => if ¬ z2 = 0 then (if am_is ω2 l0 (7, 30) = true then (am_bv (am_run (175, 0) 0 ([some (.inr (.inr l0)), none], [], am_put ω2 l0.toNat 3 (am_get ω2 l0.toNat 20))) (fun ω3 => some (some (.inl 1), ω3))) else none) else (some (some (.inl 0), ω2))))) else none)) := by
  refine Eq.trans (rr_aload_n rfl rfl) ?_
  refine Eq.trans (rr_ldcS rfl rfl rfl) ?_
  refine Eq.trans (rr_invV0i (S' := []) (L' := [some (.inr (.inr l0)), some (.inr (.inr ((-3 - ((0 : Nat) : Int))))), none]) (m' := (176, 0)) rfl rfl rfl rfl rfl rfl h1) ?_
  refine bi_cg (fun z1 ω1 => ?_)
  refine Eq.trans (rr_if_eq rfl rfl) (it_cg (fun _ => ?_) (fun _ => ?_))
  · rfl
  · refine Eq.trans (rr_aload_n rfl rfl) ?_
    refine ck_it (fun h => rr_getfi rfl rfl rfl h) (fun h => rr_getfield_no rfl rfl h) (fun h2 => ?_)
    refine Eq.trans (rr_if_ne rfl rfl) (it_cg (fun _ => ?_) (fun _ => ?_))
    · rfl
    · refine Eq.trans (rr_aload_n rfl rfl) ?_
      refine Eq.trans (rr_iconst rfl rfl) ?_
      refine Eq.trans (rr_bipush rfl rfl) ?_
      refine Eq.trans (rr_invV0i (S' := []) (L' := [some (.inr (.inr l0)), some (.inl 2), some (.inl 6)]) (m' := (177, 0)) rfl rfl rfl rfl rfl rfl h2) ?_
      refine bi_cg (fun z2 ω2 => ?_)
      refine Eq.trans (rr_if_ne rfl rfl) (it_cg (fun _ => ?_) (fun _ => ?_))
      · refine Eq.trans (rr_aload_n rfl rfl) ?_
        refine Eq.trans (rr_aload_n rfl rfl) ?_
        refine ck_it (fun h => rr_getfi rfl rfl rfl h) (fun h => rr_getfield_no rfl rfl h) (fun h3 => ?_)
        refine Eq.trans (rr_putfieldi rfl rfl rfl h3) ?_
        refine Eq.trans (rr_goto rfl rfl) ?_
        refine Eq.trans (rr_aload_n rfl rfl) ?_
        refine Eq.trans (rr_invV0v (S' := []) (L' := [some (.inr (.inr l0)), none]) (m' := (175, 0)) rfl rfl rfl rfl rfl rfl h3) ?_
        refine bv_cg (fun ω3 => ?_)
        refine Eq.trans (rr_iconst rfl rfl) ?_
        exact rr_ireturn rfl rfl
      · refine Eq.trans (rr_iconst rfl rfl) ?_
        exact rr_ireturn rfl rfl
theorem pX7_statement_39 (l0 : Int) (o1 o2 o3 : Option am_V) (ω : am_W) (h1 : am_is ω l0 (7, 30) = true) : am_run (178, 0) 39 ([some (.inr (.inr l0)), o1, o2, o3], [], ω) = am_bi (am_run (176, 0) 0 ([some (.inr (.inr l0)), some (.inr (.inr ((-3 - ((1 : Nat) : Int))))), none], [], ω)) (fun z1 ω1 => if z1 = 0 then (if am_is ω1 l0 (7, 30) = true then (am_bi (am_run (176, 0) 0 ([some (.inr (.inr l0)), some (.inr (.inr ((-3 - ((2 : Nat) : Int))))), none], [], ω1)) (fun z2 ω2 => if z2 = 0 then (am_run (178, 0) 160 ([some (.inr (.inr l0)), o1, o2, o3], [], ω2)) else (if am_is ω2 l0 (7, 30) = true then (am_bi (am_run (177, 0) 0 ([some (.inr (.inr l0)), some (.inl 0), some (.inl (am_w ((am_get ω2 l0.toNat 3) - 2)))], [], ω2)) (fun z3 ω3 => if ¬ z3 = 0 then (if am_is ω3 l0 (7, 30) = true then (am_bi (am_run (177, 0) 0 ([some (.inr (.inr l0)), some (.inl 1), some (.inl 9)], [], ω3)) (fun z4 ω4 => if ¬ z4 = 0 then (if am_is ω4 l0 (7, 30) = true then (if am_in ω4 (am_get ω4 l0.toNat 5) 100 (am_get ω3 l0.toNat 20) = true then (am_bv (am_run (175, 0) 0 ([some (.inr (.inr l0)), none], [], am_put ω4 (am_get ω4 l0.toNat 5).toNat (am_get ω3 l0.toNat 20).toNat (am_get ω4 l0.toNat 20))) (fun ω5 => some (some (.inl 1), ω5))) else none) else none) else (some (some (.inl 0), ω4)))) else none) else (some (some (.inl 0), ω3)))) else none))) else none) else (if am_is ω1 l0 (7, 30) = true then (am_bi (am_run (177, 0) 0 ([some (.inr (.inr l0)), some (.inl 0), some (.inl (am_w ((am_get ω1 l0.toNat 3) - 1)))], [], ω1)) (fun z6 ω6 => if z6 = 0 then (some (some (.inl 0), ω6)) else (if am_is ω6 l0 (7, 30) = true then (am_bi (am_run (164, 0) 0 ([some (.inr (.inr l0)), some (.inl (am_get ω6 l0.toNat 20)), none, none], [], ω6)) (fun z7 ω7 => if z7 = 0 then (if am_is ω7 l0 (7, 30) = true then (am_bi (am_run (177, 0) 0 ([some (.inr (.inr l0)), some (.inl 2), some (.inl 20)], [], ω7)) (fun z8 ω8 => if ¬ z8 = 0 then (if am_is ω8 l0 (7, 30) = true then (if am_in ω8 (am_get ω8 l0.toNat 4) 100 (am_get ω7 l0.toNat 20) = true then (am_bv (am_run (175, 0) 0 ([some (.inr (.inr l0)), none], [], am_put ω8 (am_get ω8 l0.toNat 4).toNat (am_get ω7 l0.toNat 20).toNat (am_get ω8 l0.toNat 20))) (fun ω9 => some (some (.inl 1), ω9))) else none) else none) else (some (some (.inl 0), ω8)))) else none) else (some (some (.inl 0), ω7)))) else none))) else none)) := by
  refine Eq.trans (rr_aload_n rfl rfl) ?_
  refine Eq.trans (rr_ldcS rfl rfl rfl) ?_
  refine Eq.trans (rr_invV0i (S' := []) (L' := [some (.inr (.inr l0)), some (.inr (.inr ((-3 - ((1 : Nat) : Int))))), none]) (m' := (176, 0)) rfl rfl rfl rfl rfl rfl h1) ?_
  refine bi_cg (fun z1 ω1 => ?_)
  refine Eq.trans (rr_if_eq rfl rfl) (it_cg (fun _ => ?_) (fun _ => ?_))
  · refine Eq.trans (rr_aload_n rfl rfl) ?_
    refine Eq.trans (rr_ldcS rfl rfl rfl) ?_
    refine ck_it (fun h => rr_invV0i (S' := []) (L' := [some (.inr (.inr l0)), some (.inr (.inr ((-3 - ((2 : Nat) : Int))))), none]) (m' := (176, 0)) rfl rfl rfl rfl rfl rfl h) (fun h => rr_invV0_no (S' := []) (L' := [some (.inr (.inr l0)), some (.inr (.inr ((-3 - ((2 : Nat) : Int))))), none]) (m' := (176, 0)) rfl rfl rfl rfl rfl rfl h) (fun h2 => ?_)
    refine bi_cg (fun z2 ω2 => ?_)
    refine Eq.trans (rr_if_eq rfl rfl) (it_cg (fun _ => ?_) (fun _ => ?_))
    · rfl
    · refine Eq.trans (rr_aload_n rfl rfl) ?_
      refine Eq.trans (rr_iconst rfl rfl) ?_
      refine Eq.trans (rr_aload_n rfl rfl) ?_
      refine ck_it (fun h => rr_getfi rfl rfl rfl h) (fun h => rr_getfield_no rfl rfl h) (fun h3 => ?_)
      refine Eq.trans (rr_iconst rfl rfl) ?_
      refine Eq.trans (rr_isub rfl) ?_
      refine Eq.trans (rr_invV0i (S' := []) (L' := [some (.inr (.inr l0)), some (.inl 0), some (.inl (am_w ((am_get ω2 l0.toNat 3) - 2)))]) (m' := (177, 0)) rfl rfl rfl rfl rfl rfl h3) ?_
      refine bi_cg (fun z3 ω3 => ?_)
      refine Eq.trans (rr_if_ne rfl rfl) (it_cg (fun _ => ?_) (fun _ => ?_))
      · refine Eq.trans (rr_aload_n rfl rfl) ?_
        refine ck_it (fun h => rr_getfi rfl rfl rfl h) (fun h => rr_getfield_no rfl rfl h) (fun h4 => ?_)
        refine Eq.trans (rr_istore_n (L' := [some (.inr (.inr l0)), some (.inl (am_get ω3 l0.toNat 20)), o2, o3]) rfl rfl) ?_
        refine Eq.trans (rr_aload_n rfl rfl) ?_
        refine Eq.trans (rr_iconst rfl rfl) ?_
        refine Eq.trans (rr_bipush rfl rfl) ?_
        refine Eq.trans (rr_invV0i (S' := []) (L' := [some (.inr (.inr l0)), some (.inl 1), some (.inl 9)]) (m' := (177, 0)) rfl rfl rfl rfl rfl rfl h4) ?_
        refine bi_cg (fun z4 ω4 => ?_)
        refine Eq.trans (rr_if_ne rfl rfl) (it_cg (fun _ => ?_) (fun _ => ?_))
        · refine Eq.trans (rr_aload_n rfl rfl) ?_
          refine ck_it (fun h => rr_getfr rfl rfl rfl h) (fun h => rr_getfield_no rfl rfl h) (fun h5 => ?_)
          refine Eq.trans (rr_iload_n rfl rfl) ?_
          refine Eq.trans (rr_aload_n rfl rfl) ?_
          refine Eq.trans (rr_getfi rfl rfl rfl h5) ?_
          refine ck_it (fun h => rr_iastore rfl h) (fun h => rr_iastore_no rfl h) (fun h6 => ?_)
          refine Eq.trans (rr_goto rfl rfl) ?_
          refine Eq.trans (rr_aload_n rfl rfl) ?_
          refine Eq.trans (rr_invV0v (S' := []) (L' := [some (.inr (.inr l0)), none]) (m' := (175, 0)) rfl rfl rfl rfl rfl rfl h5) ?_
          refine bv_cg (fun ω5 => ?_)
          refine Eq.trans (rr_iconst rfl rfl) ?_
          exact rr_ireturn rfl rfl
        · refine Eq.trans (rr_iconst rfl rfl) ?_
          exact rr_ireturn rfl rfl
      · refine Eq.trans (rr_iconst rfl rfl) ?_
        exact rr_ireturn rfl rfl
  · refine Eq.trans (rr_aload_n rfl rfl) ?_
    refine Eq.trans (rr_iconst rfl rfl) ?_
    refine Eq.trans (rr_aload_n rfl rfl) ?_
    refine ck_it (fun h => rr_getfi rfl rfl rfl h) (fun h => rr_getfield_no rfl rfl h) (fun h7 => ?_)
    refine Eq.trans (rr_iconst rfl rfl) ?_
    refine Eq.trans (rr_isub rfl) ?_
    refine Eq.trans (rr_invV0i (S' := []) (L' := [some (.inr (.inr l0)), some (.inl 0), some (.inl (am_w ((am_get ω1 l0.toNat 3) - 1)))]) (m' := (177, 0)) rfl rfl rfl rfl rfl rfl h7) ?_
    refine bi_cg (fun z6 ω6 => ?_)
    refine Eq.trans (rr_if_eq rfl rfl) (it_cg (fun _ => ?_) (fun _ => ?_))
    · refine Eq.trans (rr_iconst rfl rfl) ?_
      exact rr_ireturn rfl rfl
    · refine Eq.trans (rr_aload_n rfl rfl) ?_
      refine Eq.trans (rr_aload_n rfl rfl) ?_
      refine ck_it (fun h => rr_getfi rfl rfl rfl h) (fun h => rr_getfield_no rfl rfl h) (fun h8 => ?_)
      refine Eq.trans (rr_invV0i (S' := []) (L' := [some (.inr (.inr l0)), some (.inl (am_get ω6 l0.toNat 20)), none, none]) (m' := (164, 0)) rfl rfl rfl rfl rfl rfl h8) ?_
      refine bi_cg (fun z7 ω7 => ?_)
      refine Eq.trans (rr_if_eq rfl rfl) (it_cg (fun _ => ?_) (fun _ => ?_))
      · refine Eq.trans (rr_aload_n rfl rfl) ?_
        refine ck_it (fun h => rr_getfi rfl rfl rfl h) (fun h => rr_getfield_no rfl rfl h) (fun h9 => ?_)
        refine Eq.trans (rr_istore_n (L' := [some (.inr (.inr l0)), some (.inl (am_get ω7 l0.toNat 20)), o2, o3]) rfl rfl) ?_
        refine Eq.trans (rr_aload_n rfl rfl) ?_
        refine Eq.trans (rr_iconst rfl rfl) ?_
        refine Eq.trans (rr_bipush rfl rfl) ?_
        refine Eq.trans (rr_invV0i (S' := []) (L' := [some (.inr (.inr l0)), some (.inl 2), some (.inl 20)]) (m' := (177, 0)) rfl rfl rfl rfl rfl rfl h9) ?_
        refine bi_cg (fun z8 ω8 => ?_)
        refine Eq.trans (rr_if_ne rfl rfl) (it_cg (fun _ => ?_) (fun _ => ?_))
        · refine Eq.trans (rr_aload_n rfl rfl) ?_
          refine ck_it (fun h => rr_getfr rfl rfl rfl h) (fun h => rr_getfield_no rfl rfl h) (fun h10 => ?_)
          refine Eq.trans (rr_iload_n rfl rfl) ?_
          refine Eq.trans (rr_aload_n rfl rfl) ?_
          refine Eq.trans (rr_getfi rfl rfl rfl h10) ?_
          refine ck_it (fun h => rr_iastore rfl h) (fun h => rr_iastore_no rfl h) (fun h11 => ?_)
          refine Eq.trans (rr_goto rfl rfl) ?_
          refine Eq.trans (rr_aload_n rfl rfl) ?_
          refine Eq.trans (rr_invV0v (S' := []) (L' := [some (.inr (.inr l0)), none]) (m' := (175, 0)) rfl rfl rfl rfl rfl rfl h10) ?_
          refine bv_cg (fun ω9 => ?_)
          refine Eq.trans (rr_iconst rfl rfl) ?_
          exact rr_ireturn rfl rfl
        · refine Eq.trans (rr_iconst rfl rfl) ?_
          exact rr_ireturn rfl rfl
      · refine Eq.trans (rr_iconst rfl rfl) ?_
        exact rr_ireturn rfl rfl
theorem pX7_statement_160 (l0 : Int) (o1 o2 o3 : Option am_V) (ω : am_W) (h1 : am_is ω l0 (7, 30) = true) : am_run (178, 0) 160 ([some (.inr (.inr l0)), o1, o2, o3], [], ω) = am_bi (am_run (176, 0) 0 ([some (.inr (.inr l0)), some (.inr (.inr ((-3 - ((5 : Nat) : Int))))), none], [], ω)) (fun z1 ω1 => if z1 = 0 then (if am_is ω1 l0 (7, 30) = true then (am_bi (am_run (176, 0) 0 ([some (.inr (.inr l0)), some (.inr (.inr ((-3 - ((3 : Nat) : Int))))), none], [], ω1)) (fun z2 ω2 => if z2 = 0 then (some (some (.inl 0), ω2)) else (if am_is ω2 l0 (7, 30) = true then (if 6 ≤ (am_get ω2 l0.toNat 6) then (some (some (.inl 0), ω2)) else (am_bi (am_run (177, 0) 0 ([some (.inr (.inr l0)), some (.inl 0), some (.inl 5)], [], ω2)) (fun z3 ω3 => if ¬ z3 = 0 then (if am_is ω3 l0 (7, 30) = true then (am_bi (am_run (177, 0) 0 ([some (.inr (.inr l0)), some (.inl 0), some (.inl (am_w ((am_get ω3 l0.toNat 3) - 1)))], [], ω3)) (fun z4 ω4 => if ¬ z4 = 0 then (if am_is ω4 l0 (7, 30) = true then (if am_in ω4 (am_get ω4 l0.toNat 4) 100 (am_get ω4 l0.toNat 20) = true then (am_bi (am_run (177, 0) 0 ([some (.inr (.inr l0)), some (.inl 0), some (.inl (am_w ((am_get ω4 (am_get ω4 l0.toNat 4).toNat (am_get ω4 l0.toNat 20).toNat) - 1)))], [], ω4)) (fun z5 ω5 => if ¬ z5 = 0 then (if am_is ω5 l0 (7, 30) = true then (am_bi (am_run (168, 0) 0 ([some (.inr (.inr l0)), some (.inl (am_get ω3 l0.toNat 20)), some (.inl (am_get ω4 l0.toNat 20)), some (.inl (am_get ω5 l0.toNat 20)), some (.inl 0)], [], ω5)) (fun z6 ω6 => if am_is ω6 l0 (7, 30) = true then (am_bv (am_run (175, 0) 0 ([some (.inr (.inr l0)), none], [], ω6)) (fun ω7 => if am_is ω7 l0 (7, 30) = true then (am_bi (am_run (176, 0) 0 ([some (.inr (.inr l0)), some (.inr (.inr ((-3 - ((4 : Nat) : Int))))), none], [], ω7)) (fun z8 ω8 => if ¬ z8 = 0 then (if am_is ω8 l0 (7, 30) = true then (am_bi (am_run (177, 0) 0 ([some (.inr (.inr l0)), some (.inl 0), some (.inl 99)], [], ω8)) (fun z9 ω9 => if ¬ z9 = 0 then (if am_is ω9 l0 (7, 30) = true then (if am_in ω9 (am_get ω9 l0.toNat 10) 100 z6 = true then (am_bv (am_run (175, 0) 0 ([some (.inr (.inr l0)), none], [], am_put ω9 (am_get ω9 l0.toNat 10).toNat z6.toNat (am_get ω9 l0.toNat 20))) (fun ω10 => some (some (.inl 1), ω10))) else none) else none) else (some (some (.inl 0), ω9)))) else none) else (some (some (.inl 1), ω8)))) else none)) else none)) else none) else (some (some (.inl 0), ω5)))) else none) else none) else (some (some (.inl 0), ω4)))) else none) else (some (some (.inl 0), ω3))))) else none))) else none) else (if am_is ω1 l0 (7, 30) = true then (am_bi (am_run (177, 0) 0 ([some (.inr (.inr l0)), some (.inl 1), some (.inl 60)], [], ω1)) (fun z11 ω11 => if ¬ z11 = 0 then (if am_is ω11 l0 (7, 30) = true then (am_bi (am_run (221, 0) 0 ([some (.inr (.inr l0)), some (.inl (am_get ω11 l0.toNat 20)), none, none, none, none], [], ω11)) (fun z12 ω12 => if am_is ω12 l0 (7, 30) = true then (am_bv (am_run (175, 0) 0 ([some (.inr (.inr l0)), none], [], ω12)) (fun ω13 => some (some (.inl 1), ω13))) else none)) else none) else (some (some (.inl 0), ω11)))) else none)) := by
  refine Eq.trans (rr_aload_n rfl rfl) ?_
  refine Eq.trans (rr_ldcS rfl rfl rfl) ?_
  refine Eq.trans (rr_invV0i (S' := []) (L' := [some (.inr (.inr l0)), some (.inr (.inr ((-3 - ((5 : Nat) : Int))))), none]) (m' := (176, 0)) rfl rfl rfl rfl rfl rfl h1) ?_
  refine bi_cg (fun z1 ω1 => ?_)
  refine Eq.trans (rr_if_eq rfl rfl) (it_cg (fun _ => ?_) (fun _ => ?_))
  · refine Eq.trans (rr_aload_n rfl rfl) ?_
    refine Eq.trans (rr_ldcS rfl rfl rfl) ?_
    refine ck_it (fun h => rr_invV0i (S' := []) (L' := [some (.inr (.inr l0)), some (.inr (.inr ((-3 - ((3 : Nat) : Int))))), none]) (m' := (176, 0)) rfl rfl rfl rfl rfl rfl h) (fun h => rr_invV0_no (S' := []) (L' := [some (.inr (.inr l0)), some (.inr (.inr ((-3 - ((3 : Nat) : Int))))), none]) (m' := (176, 0)) rfl rfl rfl rfl rfl rfl h) (fun h2 => ?_)
    refine bi_cg (fun z2 ω2 => ?_)
    refine Eq.trans (rr_if_eq rfl rfl) (it_cg (fun _ => ?_) (fun _ => ?_))
    · refine Eq.trans (rr_iconst rfl rfl) ?_
      exact rr_ireturn rfl rfl
    · refine Eq.trans (rr_aload_n rfl rfl) ?_
      refine ck_it (fun h => rr_getfi rfl rfl rfl h) (fun h => rr_getfield_no rfl rfl h) (fun h3 => ?_)
      refine Eq.trans (rr_bipush rfl rfl) ?_
      refine Eq.trans (rr_icmp_ge rfl rfl) (it_cg (fun _ => ?_) (fun _ => ?_))
      · refine Eq.trans (rr_iconst rfl rfl) ?_
        exact rr_ireturn rfl rfl
      · refine Eq.trans (rr_aload_n rfl rfl) ?_
        refine Eq.trans (rr_iconst rfl rfl) ?_
        refine Eq.trans (rr_iconst rfl rfl) ?_
        refine Eq.trans (rr_invV0i (S' := []) (L' := [some (.inr (.inr l0)), some (.inl 0), some (.inl 5)]) (m' := (177, 0)) rfl rfl rfl rfl rfl rfl h3) ?_
        refine bi_cg (fun z3 ω3 => ?_)
        refine Eq.trans (rr_if_ne rfl rfl) (it_cg (fun _ => ?_) (fun _ => ?_))
        · refine Eq.trans (rr_aload_n rfl rfl) ?_
          refine ck_it (fun h => rr_getfi rfl rfl rfl h) (fun h => rr_getfield_no rfl rfl h) (fun h4 => ?_)
          refine Eq.trans (rr_istore_n (L' := [some (.inr (.inr l0)), some (.inl (am_get ω3 l0.toNat 20)), o2, o3]) rfl rfl) ?_
          refine Eq.trans (rr_aload_n rfl rfl) ?_
          refine Eq.trans (rr_iconst rfl rfl) ?_
          refine Eq.trans (rr_aload_n rfl rfl) ?_
          refine Eq.trans (rr_getfi rfl rfl rfl h4) ?_
          refine Eq.trans (rr_iconst rfl rfl) ?_
          refine Eq.trans (rr_isub rfl) ?_
          refine Eq.trans (rr_invV0i (S' := []) (L' := [some (.inr (.inr l0)), some (.inl 0), some (.inl (am_w ((am_get ω3 l0.toNat 3) - 1)))]) (m' := (177, 0)) rfl rfl rfl rfl rfl rfl h4) ?_
          refine bi_cg (fun z4 ω4 => ?_)
          refine Eq.trans (rr_if_ne rfl rfl) (it_cg (fun _ => ?_) (fun _ => ?_))
          · refine Eq.trans (rr_aload_n rfl rfl) ?_
            refine ck_it (fun h => rr_getfi rfl rfl rfl h) (fun h => rr_getfield_no rfl rfl h) (fun h5 => ?_)
            refine Eq.trans (rr_istore_n (L' := [some (.inr (.inr l0)), some (.inl (am_get ω3 l0.toNat 20)), some (.inl (am_get ω4 l0.toNat 20)), o3]) rfl rfl) ?_
            refine Eq.trans (rr_aload_n rfl rfl) ?_
            refine Eq.trans (rr_iconst rfl rfl) ?_
            refine Eq.trans (rr_aload_n rfl rfl) ?_
            refine Eq.trans (rr_getfr rfl rfl rfl h5) ?_
            refine Eq.trans (rr_iload_n rfl rfl) ?_
            refine ck_it (fun h => rr_iaload rfl rfl h) (fun h => rr_iaload_no rfl rfl h) (fun h6 => ?_)
            refine Eq.trans (rr_iconst rfl rfl) ?_
            refine Eq.trans (rr_isub rfl) ?_
            refine Eq.trans (rr_invV0i (S' := []) (L' := [some (.inr (.inr l0)), some (.inl 0), some (.inl (am_w ((am_get ω4 (am_get ω4 l0.toNat 4).toNat (am_get ω4 l0.toNat 20).toNat) - 1)))]) (m' := (177, 0)) rfl rfl rfl rfl rfl rfl h5) ?_
            refine bi_cg (fun z5 ω5 => ?_)
            refine Eq.trans (rr_if_ne rfl rfl) (it_cg (fun _ => ?_) (fun _ => ?_))
            · refine Eq.trans (rr_aload_n rfl rfl) ?_
              refine Eq.trans (rr_iload_n rfl rfl) ?_
              refine Eq.trans (rr_iload_n rfl rfl) ?_
              refine Eq.trans (rr_aload_n rfl rfl) ?_
              refine ck_it (fun h => rr_getfi rfl rfl rfl h) (fun h => rr_getfield_no rfl rfl h) (fun h7 => ?_)
              refine Eq.trans (rr_iconst rfl rfl) ?_
              refine Eq.trans (rr_invV0i (S' := []) (L' := [some (.inr (.inr l0)), some (.inl (am_get ω3 l0.toNat 20)), some (.inl (am_get ω4 l0.toNat 20)), some (.inl (am_get ω5 l0.toNat 20)), some (.inl 0)]) (m' := (168, 0)) rfl rfl rfl rfl rfl rfl h7) ?_
              refine bi_cg (fun z6 ω6 => ?_)
              refine Eq.trans (rr_istore_n (L' := [some (.inr (.inr l0)), some (.inl (am_get ω3 l0.toNat 20)), some (.inl (am_get ω4 l0.toNat 20)), some (.inl z6)]) rfl rfl) ?_
              refine Eq.trans (rr_aload_n rfl rfl) ?_
              refine ck_it (fun h => rr_invV0v (S' := []) (L' := [some (.inr (.inr l0)), none]) (m' := (175, 0)) rfl rfl rfl rfl rfl rfl h) (fun h => rr_invV0_no (S' := []) (L' := [some (.inr (.inr l0)), none]) (m' := (175, 0)) rfl rfl rfl rfl rfl rfl h) (fun h8 => ?_)
              refine bv_cg (fun ω7 => ?_)
              refine Eq.trans (rr_aload_n rfl rfl) ?_
              refine Eq.trans (rr_ldcS rfl rfl rfl) ?_
              refine ck_it (fun h => rr_invV0i (S' := []) (L' := [some (.inr (.inr l0)), some (.inr (.inr ((-3 - ((4 : Nat) : Int))))), none]) (m' := (176, 0)) rfl rfl rfl rfl rfl rfl h) (fun h => rr_invV0_no (S' := []) (L' := [some (.inr (.inr l0)), some (.inr (.inr ((-3 - ((4 : Nat) : Int))))), none]) (m' := (176, 0)) rfl rfl rfl rfl rfl rfl h) (fun h9 => ?_)
              refine bi_cg (fun z8 ω8 => ?_)
              refine Eq.trans (rr_if_ne rfl rfl) (it_cg (fun _ => ?_) (fun _ => ?_))
              · refine Eq.trans (rr_aload_n rfl rfl) ?_
                refine Eq.trans (rr_iconst rfl rfl) ?_
                refine Eq.trans (rr_bipush rfl rfl) ?_
                refine ck_it (fun h => rr_invV0i (S' := []) (L' := [some (.inr (.inr l0)), some (.inl 0), some (.inl 99)]) (m' := (177, 0)) rfl rfl rfl rfl rfl rfl h) (fun h => rr_invV0_no (S' := []) (L' := [some (.inr (.inr l0)), some (.inl 0), some (.inl 99)]) (m' := (177, 0)) rfl rfl rfl rfl rfl rfl h) (fun h10 => ?_)
                refine bi_cg (fun z9 ω9 => ?_)
                refine Eq.trans (rr_if_ne rfl rfl) (it_cg (fun _ => ?_) (fun _ => ?_))
                · refine Eq.trans (rr_aload_n rfl rfl) ?_
                  refine ck_it (fun h => rr_getfr rfl rfl rfl h) (fun h => rr_getfield_no rfl rfl h) (fun h11 => ?_)
                  refine Eq.trans (rr_iload_n rfl rfl) ?_
                  refine Eq.trans (rr_aload_n rfl rfl) ?_
                  refine Eq.trans (rr_getfi rfl rfl rfl h11) ?_
                  refine ck_it (fun h => rr_iastore rfl h) (fun h => rr_iastore_no rfl h) (fun h12 => ?_)
                  refine Eq.trans (rr_goto rfl rfl) ?_
                  refine Eq.trans (rr_aload_n rfl rfl) ?_
                  refine Eq.trans (rr_invV0v (S' := []) (L' := [some (.inr (.inr l0)), none]) (m' := (175, 0)) rfl rfl rfl rfl rfl rfl h11) ?_
                  refine bv_cg (fun ω10 => ?_)
                  refine Eq.trans (rr_iconst rfl rfl) ?_
                  exact rr_ireturn rfl rfl
                · refine Eq.trans (rr_iconst rfl rfl) ?_
                  exact rr_ireturn rfl rfl
              · refine Eq.trans (rr_iconst rfl rfl) ?_
                exact rr_ireturn rfl rfl
            · refine Eq.trans (rr_iconst rfl rfl) ?_
              exact rr_ireturn rfl rfl
          · refine Eq.trans (rr_iconst rfl rfl) ?_
            exact rr_ireturn rfl rfl
        · refine Eq.trans (rr_iconst rfl rfl) ?_
          exact rr_ireturn rfl rfl
  · refine Eq.trans (rr_aload_n rfl rfl) ?_
    refine Eq.trans (rr_iconst rfl rfl) ?_
    refine Eq.trans (rr_bipush rfl rfl) ?_
    refine ck_it (fun h => rr_invV0i (S' := []) (L' := [some (.inr (.inr l0)), some (.inl 1), some (.inl 60)]) (m' := (177, 0)) rfl rfl rfl rfl rfl rfl h) (fun h => rr_invV0_no (S' := []) (L' := [some (.inr (.inr l0)), some (.inl 1), some (.inl 60)]) (m' := (177, 0)) rfl rfl rfl rfl rfl rfl h) (fun h13 => ?_)
    refine bi_cg (fun z11 ω11 => ?_)
    refine Eq.trans (rr_if_ne rfl rfl) (it_cg (fun _ => ?_) (fun _ => ?_))
    · refine Eq.trans (rr_aload_n rfl rfl) ?_
      refine Eq.trans (rr_aload_n rfl rfl) ?_
      refine ck_it (fun h => rr_getfi rfl rfl rfl h) (fun h => rr_getfield_no rfl rfl h) (fun h14 => ?_)
      refine Eq.trans (rr_invV0i (S' := []) (L' := [some (.inr (.inr l0)), some (.inl (am_get ω11 l0.toNat 20)), none, none, none, none]) (m' := (221, 0)) rfl rfl rfl rfl rfl rfl h14) ?_
      refine bi_cg (fun z12 ω12 => ?_)
      refine Eq.trans (rr_popi rfl) ?_
      refine Eq.trans (rr_goto rfl rfl) ?_
      refine Eq.trans (rr_aload_n rfl rfl) ?_
      refine ck_it (fun h => rr_invV0v (S' := []) (L' := [some (.inr (.inr l0)), none]) (m' := (175, 0)) rfl rfl rfl rfl rfl rfl h) (fun h => rr_invV0_no (S' := []) (L' := [some (.inr (.inr l0)), none]) (m' := (175, 0)) rfl rfl rfl rfl rfl rfl h) (fun h15 => ?_)
      refine bv_cg (fun ω13 => ?_)
      refine Eq.trans (rr_iconst rfl rfl) ?_
      exact rr_ireturn rfl rfl
    · refine Eq.trans (rr_iconst rfl rfl) ?_
      exact rr_ireturn rfl rfl
theorem pX7_world_0 (l0 : Int) (ω : am_W) (h1 : am_is ω l0 (7, 30) = true) : am_run (179, 0) 0 ([some (.inr (.inr l0)), none, none], [], ω) = am_bv (am_run (229, 0) 0 ([some (.inr (.inr l0)), some (.inr (.inr (am_get ω l0.toNat 24))), none], [], ω)) (fun ω1 => if am_is ω1 l0 (7, 30) = true then (am_run (179, 0) 17 ([some (.inr (.inr l0)), some (.inl 0), some (.inl 1)], [], am_put ω1 l0.toNat 17 0)) else none) := by
  refine Eq.trans (rr_aload_n rfl rfl) ?_
  refine Eq.trans (rr_aload_n rfl rfl) ?_
  refine Eq.trans (rr_getfr rfl rfl rfl h1) ?_
  refine Eq.trans (rr_invV0v (S' := []) (L' := [some (.inr (.inr l0)), some (.inr (.inr (am_get ω l0.toNat 24))), none]) (m' := (229, 0)) rfl rfl rfl rfl rfl rfl h1) ?_
  refine bv_cg (fun ω1 => ?_)
  refine Eq.trans (rr_aload_n rfl rfl) ?_
  refine Eq.trans (rr_iconst rfl rfl) ?_
  refine ck_it (fun h => rr_putfieldi rfl rfl rfl h) (fun h => rr_putfieldi_no rfl rfl h) (fun h2 => ?_)
  refine Eq.trans (rr_iconst rfl rfl) ?_
  refine Eq.trans (rr_istore_n (L' := [some (.inr (.inr l0)), some (.inl 0), none]) rfl rfl) ?_
  refine Eq.trans (rr_iconst rfl rfl) ?_
  refine Eq.trans (rr_istore_n (L' := [some (.inr (.inr l0)), some (.inl 0), some (.inl 1)]) rfl rfl) ?_
  rfl
theorem pX7_world_17 (l0 l1 l2 : Int) (ω : am_W) (h1 : am_is ω l0 (7, 30) = true) : am_run (179, 0) 17 ([some (.inr (.inr l0)), some (.inl l1), some (.inl l2)], [], ω) = if l2 = 0 then (am_bv (am_run (230, 0) 0 ([some (.inr (.inr l0)), some (.inr (.inr (am_get ω l0.toNat 24))), none], [], ω)) (fun ω1 => if am_is ω1 l0 (7, 30) = true then (am_bi (am_run (148, 0) 0 ([some (.inr (.inr l0)), some (.inl ((-2)))], [], am_put ω1 l0.toNat 15 0)) (fun z2 ω2 => if am_is ω2 l0 (7, 30) = true then (some (some (.inl (am_w (((-20)) - (am_get ω2 l0.toNat 18)))), ω2)) else none)) else none)) else (am_bv (am_run (175, 0) 0 ([some (.inr (.inr l0)), none], [], ω)) (fun ω3 => if am_is ω3 l0 (7, 30) = true then (am_bi (am_run (178, 0) 0 ([some (.inr (.inr l0)), none, none, none], [], ω3)) (fun z4 ω4 => if z4 = 0 then (am_run (179, 0) 37 ([some (.inr (.inr l0)), some (.inl l1), some (.inl z4)], [], ω4)) else (am_run (179, 0) 37 ([some (.inr (.inr l0)), some (.inl (am_w (l1 + 1))), some (.inl z4)], [], ω4)))) else none)) := by
  refine Eq.trans (rr_iload_n rfl rfl) ?_
  refine Eq.trans (rr_if_eq rfl rfl) (it_cg (fun _ => ?_) (fun _ => ?_))
  · refine Eq.trans (rr_aload_n rfl rfl) ?_
    refine Eq.trans (rr_aload_n rfl rfl) ?_
    refine Eq.trans (rr_getfr rfl rfl rfl h1) ?_
    refine Eq.trans (rr_invV0v (S' := []) (L' := [some (.inr (.inr l0)), some (.inr (.inr (am_get ω l0.toNat 24))), none]) (m' := (230, 0)) rfl rfl rfl rfl rfl rfl h1) ?_
    refine bv_cg (fun ω1 => ?_)
    refine Eq.trans (rr_aload_n rfl rfl) ?_
    refine Eq.trans (rr_iconst rfl rfl) ?_
    refine ck_it (fun h => rr_putfieldi rfl rfl rfl h) (fun h => rr_putfieldi_no rfl rfl h) (fun h2 => ?_)
    refine Eq.trans (rr_aload_n rfl rfl) ?_
    refine Eq.trans (rr_bipush rfl rfl) ?_
    refine Eq.trans (rr_invV0i (S' := []) (L' := [some (.inr (.inr l0)), some (.inl ((-2)))]) (m' := (148, 0)) rfl rfl rfl rfl rfl rfl h2) ?_
    refine bi_cg (fun z2 ω2 => ?_)
    refine Eq.trans (rr_popi rfl) ?_
    refine Eq.trans (rr_bipush rfl rfl) ?_
    refine Eq.trans (rr_aload_n rfl rfl) ?_
    refine ck_it (fun h => rr_getfi rfl rfl rfl h) (fun h => rr_getfield_no rfl rfl h) (fun h3 => ?_)
    refine Eq.trans (rr_isub rfl) ?_
    exact rr_ireturn rfl rfl
  · refine Eq.trans (rr_aload_n rfl rfl) ?_
    refine Eq.trans (rr_invV0v (S' := []) (L' := [some (.inr (.inr l0)), none]) (m' := (175, 0)) rfl rfl rfl rfl rfl rfl h1) ?_
    refine bv_cg (fun ω3 => ?_)
    refine Eq.trans (rr_aload_n rfl rfl) ?_
    refine ck_it (fun h => rr_invV0i (S' := []) (L' := [some (.inr (.inr l0)), none, none, none]) (m' := (178, 0)) rfl rfl rfl rfl rfl rfl h) (fun h => rr_invV0_no (S' := []) (L' := [some (.inr (.inr l0)), none, none, none]) (m' := (178, 0)) rfl rfl rfl rfl rfl rfl h) (fun h4 => ?_)
    refine bi_cg (fun z4 ω4 => ?_)
    refine Eq.trans (rr_istore_n (L' := [some (.inr (.inr l0)), some (.inl l1), some (.inl z4)]) rfl rfl) ?_
    refine Eq.trans (rr_iload_n rfl rfl) ?_
    refine Eq.trans (rr_if_eq rfl rfl) (it_cg (fun _ => ?_) (fun _ => ?_))
    · rfl
    · refine Eq.trans (rr_iinc (L' := [some (.inr (.inr l0)), some (.inl (am_w (l1 + 1))), some (.inl z4)]) rfl rfl rfl) ?_
      rfl
theorem pX7_world_37 (l0 l1 l2 : Int) (ω : am_W) (h1 : am_is ω l0 (7, 30) = true) : am_run (179, 0) 37 ([some (.inr (.inr l0)), some (.inl l1), some (.inl l2)], [], ω) = if l2 = 0 then (if l2 = 0 then (am_run (179, 0) 17 ([some (.inr (.inr l0)), some (.inl l1), some (.inl 0)], [], ω)) else (if ¬ (am_get ω l0.toNat 19) = 3 then (am_run (179, 0) 17 ([some (.inr (.inr l0)), some (.inl l1), some (.inl 0)], [], ω)) else (am_run (179, 0) 17 ([some (.inr (.inr l0)), some (.inl l1), some (.inl 1)], [], ω)))) else (if ¬ (am_get ω l0.toNat 19) = 0 then (if l2 = 0 then (am_run (179, 0) 17 ([some (.inr (.inr l0)), some (.inl l1), some (.inl 0)], [], ω)) else (if ¬ (am_get ω l0.toNat 19) = 3 then (am_run (179, 0) 17 ([some (.inr (.inr l0)), some (.inl l1), some (.inl 0)], [], ω)) else (am_run (179, 0) 17 ([some (.inr (.inr l0)), some (.inl l1), some (.inl 1)], [], ω)))) else (some (some (.inl l1), am_put ω l0.toNat 15 0))) := by
  refine Eq.trans (rr_iload_n rfl rfl) ?_
  refine Eq.trans (rr_if_eq rfl rfl) (it_cg (fun _ => ?_) (fun _ => ?_))
  · refine Eq.trans (rr_iload_n rfl rfl) ?_
    refine Eq.trans (rr_if_eq rfl rfl) (it_cg (fun _ => ?_) (fun _ => ?_))
    · refine Eq.trans (rr_iconst rfl rfl) ?_
      refine Eq.trans (rr_istore_n (L' := [some (.inr (.inr l0)), some (.inl l1), some (.inl 0)]) rfl rfl) ?_
      refine Eq.trans (rr_goto rfl rfl) ?_
      rfl
    · refine Eq.trans (rr_aload_n rfl rfl) ?_
      refine Eq.trans (rr_getfi rfl rfl rfl h1) ?_
      refine Eq.trans (rr_iconst rfl rfl) ?_
      refine Eq.trans (rr_icmp_ne rfl rfl) (it_cg (fun _ => ?_) (fun _ => ?_))
      · refine Eq.trans (rr_iconst rfl rfl) ?_
        refine Eq.trans (rr_istore_n (L' := [some (.inr (.inr l0)), some (.inl l1), some (.inl 0)]) rfl rfl) ?_
        refine Eq.trans (rr_goto rfl rfl) ?_
        rfl
      · refine Eq.trans (rr_iconst rfl rfl) ?_
        refine Eq.trans (rr_goto rfl rfl) ?_
        refine Eq.trans (rr_istore_n (L' := [some (.inr (.inr l0)), some (.inl l1), some (.inl 1)]) rfl rfl) ?_
        refine Eq.trans (rr_goto rfl rfl) ?_
        rfl
  · refine Eq.trans (rr_aload_n rfl rfl) ?_
    refine Eq.trans (rr_getfi rfl rfl rfl h1) ?_
    refine Eq.trans (rr_if_ne rfl rfl) (it_cg (fun _ => ?_) (fun _ => ?_))
    · refine Eq.trans (rr_iload_n rfl rfl) ?_
      refine Eq.trans (rr_if_eq rfl rfl) (it_cg (fun _ => ?_) (fun _ => ?_))
      · refine Eq.trans (rr_iconst rfl rfl) ?_
        refine Eq.trans (rr_istore_n (L' := [some (.inr (.inr l0)), some (.inl l1), some (.inl 0)]) rfl rfl) ?_
        refine Eq.trans (rr_goto rfl rfl) ?_
        rfl
      · refine Eq.trans (rr_aload_n rfl rfl) ?_
        refine Eq.trans (rr_getfi rfl rfl rfl h1) ?_
        refine Eq.trans (rr_iconst rfl rfl) ?_
        refine Eq.trans (rr_icmp_ne rfl rfl) (it_cg (fun _ => ?_) (fun _ => ?_))
        · refine Eq.trans (rr_iconst rfl rfl) ?_
          refine Eq.trans (rr_istore_n (L' := [some (.inr (.inr l0)), some (.inl l1), some (.inl 0)]) rfl rfl) ?_
          refine Eq.trans (rr_goto rfl rfl) ?_
          rfl
        · refine Eq.trans (rr_iconst rfl rfl) ?_
          refine Eq.trans (rr_goto rfl rfl) ?_
          refine Eq.trans (rr_istore_n (L' := [some (.inr (.inr l0)), some (.inl l1), some (.inl 1)]) rfl rfl) ?_
          refine Eq.trans (rr_goto rfl rfl) ?_
          rfl
    · refine Eq.trans (rr_aload_n rfl rfl) ?_
      refine Eq.trans (rr_iconst rfl rfl) ?_
      refine Eq.trans (rr_putfieldi rfl rfl rfl h1) ?_
      refine Eq.trans (rr_iload_n rfl rfl) ?_
      exact rr_ireturn rfl rfl
theorem pX7_shipOf_0 (l0 l1 l2 : Int) (ω : am_W) (h1 : am_is ω l0 (7, 30) = true) : am_run (180, 0) 0 ([some (.inr (.inr l0)), some (.inl l1), some (.inl l2)], [], ω) = am_bi (am_run (151, 0) 0 ([some (.inr (.inr l0)), some (.inl l1)], [], ω)) (fun z1 ω1 => if ¬ z1 = 0 then (if l2 = 0 then (if am_is ω1 l0 (7, 30) = true then (if am_in ω1 (am_get ω1 l0.toNat 7) 100 l1 = true then (some (some (.inl (am_get ω1 (am_get ω1 l0.toNat 7).toNat l1.toNat)), ω1)) else none) else none) else if l2 = 1 then (if am_is ω1 l0 (7, 30) = true then (if am_in ω1 (am_get ω1 l0.toNat 8) 100 l1 = true then (some (some (.inl (am_get ω1 (am_get ω1 l0.toNat 8).toNat l1.toNat)), ω1)) else none) else none) else if l2 = 2 then (if am_is ω1 l0 (7, 30) = true then (if am_in ω1 (am_get ω1 l0.toNat 9) 100 l1 = true then (some (some (.inl (am_get ω1 (am_get ω1 l0.toNat 9).toNat l1.toNat)), ω1)) else none) else none) else if l2 = 3 then (if am_is ω1 l0 (7, 30) = true then (if am_in ω1 (am_get ω1 l0.toNat 10) 100 l1 = true then (some (some (.inl (am_get ω1 (am_get ω1 l0.toNat 10).toNat l1.toNat)), ω1)) else none) else none) else if l2 = 4 then (if am_is ω1 l0 (7, 30) = true then (if am_in ω1 (am_get ω1 l0.toNat 11) 100 l1 = true then (some (some (.inl (am_get ω1 (am_get ω1 l0.toNat 11).toNat l1.toNat)), ω1)) else none) else none) else (if am_is ω1 l0 (7, 30) = true then (am_bi (am_run (148, 0) 0 ([some (.inr (.inr l0)), some (.inl ((-2)))], [], ω1)) (fun z2 ω2 => some (some (.inl z2), ω2))) else none)) else (if am_is ω1 l0 (7, 30) = true then (am_bi (am_run (148, 0) 0 ([some (.inr (.inr l0)), some (.inl ((-2)))], [], ω1)) (fun z3 ω3 => some (some (.inl z3), ω3))) else none)) := by
  refine Eq.trans (rr_aload_n rfl rfl) ?_
  refine Eq.trans (rr_iload_n rfl rfl) ?_
  refine Eq.trans (rr_invV0i (S' := []) (L' := [some (.inr (.inr l0)), some (.inl l1)]) (m' := (151, 0)) rfl rfl rfl rfl rfl rfl h1) ?_
  refine bi_cg (fun z1 ω1 => ?_)
  refine Eq.trans (rr_if_ne rfl rfl) (it_cg (fun _ => ?_) (fun _ => ?_))
  · refine Eq.trans (rr_iload_n rfl rfl) ?_
    refine sw_it (fun q2 => Eq.trans (rr_tsw rfl (by rw [q2]; rfl) rfl) ?_) (fun q2 => ?_)
    · refine Eq.trans (rr_aload_n rfl rfl) ?_
      refine ck_it (fun h => rr_getfr rfl rfl rfl h) (fun h => rr_getfield_no rfl rfl h) (fun h3 => ?_)
      refine Eq.trans (rr_iload_n rfl rfl) ?_
      refine ck_it (fun h => rr_iaload rfl rfl h) (fun h => rr_iaload_no rfl rfl h) (fun h4 => ?_)
      exact rr_ireturn rfl rfl
    refine sw_it (fun q5 => Eq.trans (rr_tsw rfl (by rw [q5]; rfl) rfl) ?_) (fun q5 => ?_)
    · refine Eq.trans (rr_aload_n rfl rfl) ?_
      refine ck_it (fun h => rr_getfr rfl rfl rfl h) (fun h => rr_getfield_no rfl rfl h) (fun h6 => ?_)
      refine Eq.trans (rr_iload_n rfl rfl) ?_
      refine ck_it (fun h => rr_iaload rfl rfl h) (fun h => rr_iaload_no rfl rfl h) (fun h7 => ?_)
      exact rr_ireturn rfl rfl
    refine sw_it (fun q8 => Eq.trans (rr_tsw rfl (by rw [q8]; rfl) rfl) ?_) (fun q8 => ?_)
    · refine Eq.trans (rr_aload_n rfl rfl) ?_
      refine ck_it (fun h => rr_getfr rfl rfl rfl h) (fun h => rr_getfield_no rfl rfl h) (fun h9 => ?_)
      refine Eq.trans (rr_iload_n rfl rfl) ?_
      refine ck_it (fun h => rr_iaload rfl rfl h) (fun h => rr_iaload_no rfl rfl h) (fun h10 => ?_)
      exact rr_ireturn rfl rfl
    refine sw_it (fun q11 => Eq.trans (rr_tsw rfl (by rw [q11]; rfl) rfl) ?_) (fun q11 => ?_)
    · refine Eq.trans (rr_aload_n rfl rfl) ?_
      refine ck_it (fun h => rr_getfr rfl rfl rfl h) (fun h => rr_getfield_no rfl rfl h) (fun h12 => ?_)
      refine Eq.trans (rr_iload_n rfl rfl) ?_
      refine ck_it (fun h => rr_iaload rfl rfl h) (fun h => rr_iaload_no rfl rfl h) (fun h13 => ?_)
      exact rr_ireturn rfl rfl
    refine sw_it (fun q14 => Eq.trans (rr_tsw rfl (by rw [q14]; rfl) rfl) ?_) (fun q14 => ?_)
    · refine Eq.trans (rr_aload_n rfl rfl) ?_
      refine ck_it (fun h => rr_getfr rfl rfl rfl h) (fun h => rr_getfield_no rfl rfl h) (fun h15 => ?_)
      refine Eq.trans (rr_iload_n rfl rfl) ?_
      refine ck_it (fun h => rr_iaload rfl rfl h) (fun h => rr_iaload_no rfl rfl h) (fun h16 => ?_)
      exact rr_ireturn rfl rfl
    refine Eq.trans (rr_tsw rfl (am_tsw_out (by omega)) rfl) ?_
    refine Eq.trans (rr_aload_n rfl rfl) ?_
    refine Eq.trans (rr_bipush rfl rfl) ?_
    refine ck_it (fun h => rr_invV0i (S' := []) (L' := [some (.inr (.inr l0)), some (.inl ((-2)))]) (m' := (148, 0)) rfl rfl rfl rfl rfl rfl h) (fun h => rr_invV0_no (S' := []) (L' := [some (.inr (.inr l0)), some (.inl ((-2)))]) (m' := (148, 0)) rfl rfl rfl rfl rfl rfl h) (fun h17 => ?_)
    refine bi_cg (fun z2 ω2 => ?_)
    exact rr_ireturn rfl rfl
  · refine Eq.trans (rr_aload_n rfl rfl) ?_
    refine Eq.trans (rr_bipush rfl rfl) ?_
    refine ck_it (fun h => rr_invV0i (S' := []) (L' := [some (.inr (.inr l0)), some (.inl ((-2)))]) (m' := (148, 0)) rfl rfl rfl rfl rfl rfl h) (fun h => rr_invV0_no (S' := []) (L' := [some (.inr (.inr l0)), some (.inl ((-2)))]) (m' := (148, 0)) rfl rfl rfl rfl rfl rfl h) (fun h18 => ?_)
    refine bi_cg (fun z3 ω3 => ?_)
    exact rr_ireturn rfl rfl
theorem pX7_circleOf_0 (l0 l1 l2 : Int) (ω : am_W) (h1 : am_is ω l0 (7, 30) = true) : am_run (181, 0) 0 ([some (.inr (.inr l0)), some (.inl l1), some (.inl l2)], [], ω) = am_bi (am_run (153, 0) 0 ([some (.inr (.inr l0)), some (.inl l1)], [], ω)) (fun z1 ω1 => if z1 = 0 then (if am_is ω1 l0 (7, 30) = true then (am_bi (am_run (148, 0) 0 ([some (.inr (.inr l0)), some (.inl ((-2)))], [], ω1)) (fun z2 ω2 => some (some (.inl z2), ω2))) else none) else (am_bi (am_run (149, 0) 0 ([some (.inl l2), some (.inl 0), some (.inl 2)], [], ω1)) (fun z3 ω3 => if ¬ z3 = 0 then (if ¬ l2 = 0 then (if ¬ l2 = 2 then (if am_is ω3 l0 (7, 30) = true then (if ¬ l1 = (am_w ((am_get ω3 l0.toNat 3) - 1)) then (if am_in ω3 (am_get ω3 l0.toNat 5) 100 l1 = true then (some (some (.inl (am_get ω3 (am_get ω3 l0.toNat 5).toNat l1.toNat)), ω3)) else none) else (some (some (.inl 0), ω3))) else none) else (if am_is ω3 l0 (7, 30) = true then (am_bi (am_run (164, 0) 0 ([some (.inr (.inr l0)), some (.inl l1), none, none], [], ω3)) (fun z4 ω4 => some (some (.inl z4), ω4))) else none)) else (if am_is ω3 l0 (7, 30) = true then (if am_in ω3 (am_get ω3 l0.toNat 4) 100 l1 = true then (some (some (.inl (am_get ω3 (am_get ω3 l0.toNat 4).toNat l1.toNat)), ω3)) else none) else none)) else (if am_is ω3 l0 (7, 30) = true then (am_bi (am_run (148, 0) 0 ([some (.inr (.inr l0)), some (.inl ((-2)))], [], ω3)) (fun z5 ω5 => some (some (.inl z5), ω5))) else none)))) := by
  refine Eq.trans (rr_aload_n rfl rfl) ?_
  refine Eq.trans (rr_iload_n rfl rfl) ?_
  refine Eq.trans (rr_invV0i (S' := []) (L' := [some (.inr (.inr l0)), some (.inl l1)]) (m' := (153, 0)) rfl rfl rfl rfl rfl rfl h1) ?_
  refine bi_cg (fun z1 ω1 => ?_)
  refine Eq.trans (rr_if_eq rfl rfl) (it_cg (fun _ => ?_) (fun _ => ?_))
  · refine Eq.trans (rr_aload_n rfl rfl) ?_
    refine Eq.trans (rr_bipush rfl rfl) ?_
    refine ck_it (fun h => rr_invV0i (S' := []) (L' := [some (.inr (.inr l0)), some (.inl ((-2)))]) (m' := (148, 0)) rfl rfl rfl rfl rfl rfl h) (fun h => rr_invV0_no (S' := []) (L' := [some (.inr (.inr l0)), some (.inl ((-2)))]) (m' := (148, 0)) rfl rfl rfl rfl rfl rfl h) (fun h2 => ?_)
    refine bi_cg (fun z2 ω2 => ?_)
    exact rr_ireturn rfl rfl
  · refine Eq.trans (rr_iload_n rfl rfl) ?_
    refine Eq.trans (rr_iconst rfl rfl) ?_
    refine Eq.trans (rr_iconst rfl rfl) ?_
    refine Eq.trans (rr_invS2i (S' := []) (L' := [some (.inl l2), some (.inl 0), some (.inl 2)]) (m' := (149, 0)) rfl rfl rfl rfl rfl rfl) ?_
    refine bi_cg (fun z3 ω3 => ?_)
    refine Eq.trans (rr_if_ne rfl rfl) (it_cg (fun _ => ?_) (fun _ => ?_))
    · refine Eq.trans (rr_iload_n rfl rfl) ?_
      refine Eq.trans (rr_if_ne rfl rfl) (it_cg (fun _ => ?_) (fun _ => ?_))
      · refine Eq.trans (rr_iload_n rfl rfl) ?_
        refine Eq.trans (rr_iconst rfl rfl) ?_
        refine Eq.trans (rr_icmp_ne rfl rfl) (it_cg (fun _ => ?_) (fun _ => ?_))
        · refine Eq.trans (rr_iload_n rfl rfl) ?_
          refine Eq.trans (rr_aload_n rfl rfl) ?_
          refine ck_it (fun h => rr_getfi rfl rfl rfl h) (fun h => rr_getfield_no rfl rfl h) (fun h3 => ?_)
          refine Eq.trans (rr_iconst rfl rfl) ?_
          refine Eq.trans (rr_isub rfl) ?_
          refine Eq.trans (rr_icmp_ne rfl rfl) (it_cg (fun _ => ?_) (fun _ => ?_))
          · refine Eq.trans (rr_aload_n rfl rfl) ?_
            refine Eq.trans (rr_getfr rfl rfl rfl h3) ?_
            refine Eq.trans (rr_iload_n rfl rfl) ?_
            refine ck_it (fun h => rr_iaload rfl rfl h) (fun h => rr_iaload_no rfl rfl h) (fun h4 => ?_)
            exact rr_ireturn rfl rfl
          · refine Eq.trans (rr_iconst rfl rfl) ?_
            refine Eq.trans (rr_goto rfl rfl) ?_
            exact rr_ireturn rfl rfl
        · refine Eq.trans (rr_aload_n rfl rfl) ?_
          refine Eq.trans (rr_iload_n rfl rfl) ?_
          refine ck_it (fun h => rr_invV0i (S' := []) (L' := [some (.inr (.inr l0)), some (.inl l1), none, none]) (m' := (164, 0)) rfl rfl rfl rfl rfl rfl h) (fun h => rr_invV0_no (S' := []) (L' := [some (.inr (.inr l0)), some (.inl l1), none, none]) (m' := (164, 0)) rfl rfl rfl rfl rfl rfl h) (fun h5 => ?_)
          refine bi_cg (fun z4 ω4 => ?_)
          refine Eq.trans (rr_goto rfl rfl) ?_
          exact rr_ireturn rfl rfl
      · refine Eq.trans (rr_aload_n rfl rfl) ?_
        refine ck_it (fun h => rr_getfr rfl rfl rfl h) (fun h => rr_getfield_no rfl rfl h) (fun h6 => ?_)
        refine Eq.trans (rr_iload_n rfl rfl) ?_
        refine ck_it (fun h => rr_iaload rfl rfl h) (fun h => rr_iaload_no rfl rfl h) (fun h7 => ?_)
        refine Eq.trans (rr_goto rfl rfl) ?_
        exact rr_ireturn rfl rfl
    · refine Eq.trans (rr_aload_n rfl rfl) ?_
      refine Eq.trans (rr_bipush rfl rfl) ?_
      refine ck_it (fun h => rr_invV0i (S' := []) (L' := [some (.inr (.inr l0)), some (.inl ((-2)))]) (m' := (148, 0)) rfl rfl rfl rfl rfl rfl h) (fun h => rr_invV0_no (S' := []) (L' := [some (.inr (.inr l0)), some (.inl ((-2)))]) (m' := (148, 0)) rfl rfl rfl rfl rfl rfl h) (fun h8 => ?_)
      refine bi_cg (fun z5 ω5 => ?_)
      exact rr_ireturn rfl rfl
theorem pX7_drift_0 (l0 l1 : Int) (ω : am_W) (h1 : am_is ω l0 (7, 30) = true) : am_run (182, 0) 0 ([some (.inr (.inr l0)), some (.inl l1)], [], ω) = if am_in ω (am_get ω l0.toNat 11) 100 l1 = true then (if (am_get ω (am_get ω l0.toNat 11).toNat l1.toNat) ≤ 0 then (if am_in ω (am_get ω l0.toNat 9) 100 l1 = true then (if am_in ω (am_get ω l0.toNat 8) 100 l1 = true then (if am_in ω (am_get ω l0.toNat 4) 100 (am_get ω (am_get ω l0.toNat 8).toNat l1.toNat) = true then (if (am_get ω (am_get ω l0.toNat 4).toNat (am_get ω (am_get ω l0.toNat 8).toNat l1.toNat).toNat) = 0 then none else (some (none, am_put ω (am_get ω l0.toNat 9).toNat l1.toNat ((am_w ((am_get ω (am_get ω l0.toNat 9).toNat l1.toNat) + 1)).tmod (am_get ω (am_get ω l0.toNat 4).toNat (am_get ω (am_get ω l0.toNat 8).toNat l1.toNat).toNat))))) else none) else none) else none) else (some (none, am_put ω (am_get ω l0.toNat 11).toNat l1.toNat (am_w ((am_get ω (am_get ω l0.toNat 11).toNat l1.toNat) - 1))))) else none := by
  refine Eq.trans (rr_aload_n rfl rfl) ?_
  refine Eq.trans (rr_getfr rfl rfl rfl h1) ?_
  refine Eq.trans (rr_iload_n rfl rfl) ?_
  refine ck_it (fun h => rr_iaload rfl rfl h) (fun h => rr_iaload_no rfl rfl h) (fun h2 => ?_)
  refine Eq.trans (rr_if_le rfl rfl) (it_cg (fun _ => ?_) (fun _ => ?_))
  · refine Eq.trans (rr_aload_n rfl rfl) ?_
    refine Eq.trans (rr_getfr rfl rfl rfl h1) ?_
    refine Eq.trans (rr_iload_n rfl rfl) ?_
    refine Eq.trans (rr_aload_n rfl rfl) ?_
    refine Eq.trans (rr_getfr rfl rfl rfl h1) ?_
    refine Eq.trans (rr_iload_n rfl rfl) ?_
    refine ck_it (fun h => rr_iaload rfl rfl h) (fun h => rr_iaload_no rfl rfl h) (fun h3 => ?_)
    refine Eq.trans (rr_iconst rfl rfl) ?_
    refine Eq.trans (rr_iadd rfl) ?_
    refine Eq.trans (rr_aload_n rfl rfl) ?_
    refine Eq.trans (rr_getfr rfl rfl rfl h1) ?_
    refine Eq.trans (rr_aload_n rfl rfl) ?_
    refine Eq.trans (rr_getfr rfl rfl rfl h1) ?_
    refine Eq.trans (rr_iload_n rfl rfl) ?_
    refine ck_it (fun h => rr_iaload rfl rfl h) (fun h => rr_iaload_no rfl rfl h) (fun h4 => ?_)
    refine ck_it (fun h => rr_iaload rfl rfl h) (fun h => rr_iaload_no rfl rfl h) (fun h5 => ?_)
    refine Eq.trans (rr_irem rfl) (it_cg (fun _ => rfl) (fun _ => ?_))
    refine Eq.trans (rr_iastore rfl h3) ?_
    exact rr_return rfl rfl
  · refine Eq.trans (rr_aload_n rfl rfl) ?_
    refine Eq.trans (rr_getfr rfl rfl rfl h1) ?_
    refine Eq.trans (rr_iload_n rfl rfl) ?_
    refine Eq.trans (rr_dup2 rfl) ?_
    refine Eq.trans (rr_iaload rfl rfl h2) ?_
    refine Eq.trans (rr_iconst rfl rfl) ?_
    refine Eq.trans (rr_isub rfl) ?_
    refine Eq.trans (rr_iastore rfl h2) ?_
    refine Eq.trans (rr_goto rfl rfl) ?_
    exact rr_return rfl rfl
theorem pX7_meet_0 (l0 l1 l2 : Int) (ω : am_W) (h1 : am_is ω l0 (7, 30) = true) : am_run (183, 0) 0 ([some (.inr (.inr l0)), some (.inl l1), some (.inl l2)], [], ω) = if am_in ω (am_get ω l0.toNat 11) 100 l1 = true then (if ¬ (am_get ω (am_get ω l0.toNat 11).toNat l1.toNat) = 0 then (some (some (.inl 0), ω)) else (if am_in ω (am_get ω l0.toNat 11) 100 l2 = true then (if ¬ (am_get ω (am_get ω l0.toNat 11).toNat l2.toNat) = 0 then (some (some (.inl 0), ω)) else (if am_in ω (am_get ω l0.toNat 8) 100 l1 = true then (if am_in ω (am_get ω l0.toNat 8) 100 l2 = true then (if ¬ (am_get ω (am_get ω l0.toNat 8).toNat l1.toNat) = (am_get ω (am_get ω l0.toNat 8).toNat l2.toNat) then (some (some (.inl 0), ω)) else (if am_in ω (am_get ω l0.toNat 9) 100 l1 = true then (if am_in ω (am_get ω l0.toNat 9) 100 l2 = true then (if ¬ (am_get ω (am_get ω l0.toNat 9).toNat l1.toNat) = (am_get ω (am_get ω l0.toNat 9).toNat l2.toNat) then (some (some (.inl 0), ω)) else (some (some (.inl 1), ω))) else none) else none)) else none) else none)) else none)) else none := by
  refine Eq.trans (rr_aload_n rfl rfl) ?_
  refine Eq.trans (rr_getfr rfl rfl rfl h1) ?_
  refine Eq.trans (rr_iload_n rfl rfl) ?_
  refine ck_it (fun h => rr_iaload rfl rfl h) (fun h => rr_iaload_no rfl rfl h) (fun h2 => ?_)
  refine Eq.trans (rr_if_ne rfl rfl) (it_cg (fun _ => ?_) (fun _ => ?_))
  · refine Eq.trans (rr_iconst rfl rfl) ?_
    exact rr_ireturn rfl rfl
  · refine Eq.trans (rr_aload_n rfl rfl) ?_
    refine Eq.trans (rr_getfr rfl rfl rfl h1) ?_
    refine Eq.trans (rr_iload_n rfl rfl) ?_
    refine ck_it (fun h => rr_iaload rfl rfl h) (fun h => rr_iaload_no rfl rfl h) (fun h3 => ?_)
    refine Eq.trans (rr_if_ne rfl rfl) (it_cg (fun _ => ?_) (fun _ => ?_))
    · refine Eq.trans (rr_iconst rfl rfl) ?_
      exact rr_ireturn rfl rfl
    · refine Eq.trans (rr_aload_n rfl rfl) ?_
      refine Eq.trans (rr_getfr rfl rfl rfl h1) ?_
      refine Eq.trans (rr_iload_n rfl rfl) ?_
      refine ck_it (fun h => rr_iaload rfl rfl h) (fun h => rr_iaload_no rfl rfl h) (fun h4 => ?_)
      refine Eq.trans (rr_aload_n rfl rfl) ?_
      refine Eq.trans (rr_getfr rfl rfl rfl h1) ?_
      refine Eq.trans (rr_iload_n rfl rfl) ?_
      refine ck_it (fun h => rr_iaload rfl rfl h) (fun h => rr_iaload_no rfl rfl h) (fun h5 => ?_)
      refine Eq.trans (rr_icmp_ne rfl rfl) (it_cg (fun _ => ?_) (fun _ => ?_))
      · refine Eq.trans (rr_iconst rfl rfl) ?_
        exact rr_ireturn rfl rfl
      · refine Eq.trans (rr_aload_n rfl rfl) ?_
        refine Eq.trans (rr_getfr rfl rfl rfl h1) ?_
        refine Eq.trans (rr_iload_n rfl rfl) ?_
        refine ck_it (fun h => rr_iaload rfl rfl h) (fun h => rr_iaload_no rfl rfl h) (fun h6 => ?_)
        refine Eq.trans (rr_aload_n rfl rfl) ?_
        refine Eq.trans (rr_getfr rfl rfl rfl h1) ?_
        refine Eq.trans (rr_iload_n rfl rfl) ?_
        refine ck_it (fun h => rr_iaload rfl rfl h) (fun h => rr_iaload_no rfl rfl h) (fun h7 => ?_)
        refine Eq.trans (rr_icmp_ne rfl rfl) (it_cg (fun _ => ?_) (fun _ => ?_))
        · refine Eq.trans (rr_iconst rfl rfl) ?_
          exact rr_ireturn rfl rfl
        · refine Eq.trans (rr_iconst rfl rfl) ?_
          refine Eq.trans (rr_goto rfl rfl) ?_
          exact rr_ireturn rfl rfl
theorem pX7_price_0 (l0 l1 l2 : Int) (ω : am_W) (h1 : am_is ω l0 (7, 30) = true) : am_run (184, 0) 0 ([some (.inr (.inr l0)), some (.inl l1), some (.inl l2)], [], ω) = if am_in ω (am_get ω l0.toNat 7) 100 l1 = true then (if (am_get ω (am_get ω l0.toNat 7).toNat l1.toNat) = 1 then (if am_in ω (am_get ω l0.toNat 5) 100 l2 = true then (if 2 = 0 then none else (some (some (.inl (am_w ((am_w ((am_get ω (am_get ω l0.toNat 5).toNat l2.toNat) + 1)).tdiv 2))), ω))) else none) else (if ¬ (am_get ω (am_get ω l0.toNat 7).toNat l1.toNat) = 5 then (if am_in ω (am_get ω l0.toNat 5) 100 l2 = true then (some (some (.inl (am_get ω (am_get ω l0.toNat 5).toNat l2.toNat)), ω)) else none) else (if am_in ω (am_get ω l0.toNat 5) 100 l2 = true then (if 2 = 0 then none else (some (some (.inl (am_w ((am_w ((am_get ω (am_get ω l0.toNat 5).toNat l2.toNat) + 1)).tdiv 2))), ω))) else none))) else none := by
  refine Eq.trans (rr_aload_n rfl rfl) ?_
  refine Eq.trans (rr_getfr rfl rfl rfl h1) ?_
  refine Eq.trans (rr_iload_n rfl rfl) ?_
  refine ck_it (fun h => rr_iaload rfl rfl h) (fun h => rr_iaload_no rfl rfl h) (fun h2 => ?_)
  refine Eq.trans (rr_iconst rfl rfl) ?_
  refine Eq.trans (rr_icmp_eq rfl rfl) (it_cg (fun _ => ?_) (fun _ => ?_))
  · refine Eq.trans (rr_aload_n rfl rfl) ?_
    refine Eq.trans (rr_getfr rfl rfl rfl h1) ?_
    refine Eq.trans (rr_iload_n rfl rfl) ?_
    refine ck_it (fun h => rr_iaload rfl rfl h) (fun h => rr_iaload_no rfl rfl h) (fun h3 => ?_)
    refine Eq.trans (rr_iconst rfl rfl) ?_
    refine Eq.trans (rr_iadd rfl) ?_
    refine Eq.trans (rr_iconst rfl rfl) ?_
    refine Eq.trans (rr_idiv rfl) (it_cg (fun _ => rfl) (fun _ => ?_))
    refine Eq.trans (rr_goto rfl rfl) ?_
    exact rr_ireturn rfl rfl
  · refine Eq.trans (rr_aload_n rfl rfl) ?_
    refine Eq.trans (rr_getfr rfl rfl rfl h1) ?_
    refine Eq.trans (rr_iload_n rfl rfl) ?_
    refine Eq.trans (rr_iaload rfl rfl h2) ?_
    refine Eq.trans (rr_iconst rfl rfl) ?_
    refine Eq.trans (rr_icmp_ne rfl rfl) (it_cg (fun _ => ?_) (fun _ => ?_))
    · refine Eq.trans (rr_aload_n rfl rfl) ?_
      refine Eq.trans (rr_getfr rfl rfl rfl h1) ?_
      refine Eq.trans (rr_iload_n rfl rfl) ?_
      refine ck_it (fun h => rr_iaload rfl rfl h) (fun h => rr_iaload_no rfl rfl h) (fun h4 => ?_)
      exact rr_ireturn rfl rfl
    · refine Eq.trans (rr_aload_n rfl rfl) ?_
      refine Eq.trans (rr_getfr rfl rfl rfl h1) ?_
      refine Eq.trans (rr_iload_n rfl rfl) ?_
      refine ck_it (fun h => rr_iaload rfl rfl h) (fun h => rr_iaload_no rfl rfl h) (fun h5 => ?_)
      refine Eq.trans (rr_iconst rfl rfl) ?_
      refine Eq.trans (rr_iadd rfl) ?_
      refine Eq.trans (rr_iconst rfl rfl) ?_
      refine Eq.trans (rr_idiv rfl) (it_cg (fun _ => rfl) (fun _ => ?_))
      refine Eq.trans (rr_goto rfl rfl) ?_
      exact rr_ireturn rfl rfl
theorem pX7_halfOf_0 (l0 : Int) (ω : am_W) : am_run (185, 0) 0 ([some (.inl l0)], [], ω) = if 2 = 0 then none else (am_bi (am_run (236, 0) 0 ([some (.inl 1), some (.inl (am_w (l0.tdiv 2)))], [], ω)) (fun z1 ω1 => some (some (.inl z1), ω1))) := by
  refine Eq.trans (rr_iconst rfl rfl) ?_
  refine Eq.trans (rr_iload_n rfl rfl) ?_
  refine Eq.trans (rr_iconst rfl rfl) ?_
  refine Eq.trans (rr_idiv rfl) (it_cg (fun _ => rfl) (fun _ => ?_))
  refine Eq.trans (rr_invS2i (S' := []) (L' := [some (.inl 1), some (.inl (am_w (l0.tdiv 2)))]) (m' := (236, 0)) rfl rfl rfl rfl rfl rfl) ?_
  refine bi_cg (fun z1 ω1 => ?_)
  exact rr_ireturn rfl rfl
theorem pX7_across_0 (l0 l1 l2 l3 : Int) (ω : am_W) (h1 : am_is ω l0 (7, 30) = true) : am_run (186, 0) 0 ([some (.inr (.inr l0)), some (.inl l1), some (.inl l2), some (.inl l3)], [], ω) = if am_in ω (am_get ω l0.toNat 4) 100 l3 = true then (if am_in ω (am_get ω l0.toNat 4) 100 l2 = true then (if (am_get ω (am_get ω l0.toNat 4).toNat l2.toNat) = 0 then none else (if 2 = 0 then none else (if (am_get ω (am_get ω l0.toNat 4).toNat l3.toNat) = 0 then none else (some (some (.inl ((am_w ((am_w ((am_w (l1 * (am_get ω (am_get ω l0.toNat 4).toNat l3.toNat))).tdiv (am_get ω (am_get ω l0.toNat 4).toNat l2.toNat))) + (am_w ((am_get ω (am_get ω l0.toNat 4).toNat l3.toNat).tdiv 2)))).tmod (am_get ω (am_get ω l0.toNat 4).toNat l3.toNat))), ω))))) else none) else none := by
  refine Eq.trans (rr_iload_n rfl rfl) ?_
  refine Eq.trans (rr_aload_n rfl rfl) ?_
  refine Eq.trans (rr_getfr rfl rfl rfl h1) ?_
  refine Eq.trans (rr_iload_n rfl rfl) ?_
  refine ck_it (fun h => rr_iaload rfl rfl h) (fun h => rr_iaload_no rfl rfl h) (fun h2 => ?_)
  refine Eq.trans (rr_imul rfl) ?_
  refine Eq.trans (rr_aload_n rfl rfl) ?_
  refine Eq.trans (rr_getfr rfl rfl rfl h1) ?_
  refine Eq.trans (rr_iload_n rfl rfl) ?_
  refine ck_it (fun h => rr_iaload rfl rfl h) (fun h => rr_iaload_no rfl rfl h) (fun h3 => ?_)
  refine Eq.trans (rr_idiv rfl) (it_cg (fun _ => rfl) (fun _ => ?_))
  refine Eq.trans (rr_aload_n rfl rfl) ?_
  refine Eq.trans (rr_getfr rfl rfl rfl h1) ?_
  refine Eq.trans (rr_iload_n rfl rfl) ?_
  refine Eq.trans (rr_iaload rfl rfl h2) ?_
  refine Eq.trans (rr_iconst rfl rfl) ?_
  refine Eq.trans (rr_idiv rfl) (it_cg (fun _ => rfl) (fun _ => ?_))
  refine Eq.trans (rr_iadd rfl) ?_
  refine Eq.trans (rr_aload_n rfl rfl) ?_
  refine Eq.trans (rr_getfr rfl rfl rfl h1) ?_
  refine Eq.trans (rr_iload_n rfl rfl) ?_
  refine Eq.trans (rr_iaload rfl rfl h2) ?_
  refine Eq.trans (rr_irem rfl) (it_cg (fun _ => rfl) (fun _ => ?_))
  exact rr_ireturn rfl rfl
theorem pX7_isWay_0 (l0 l1 l2 : Int) (ω : am_W) (h1 : am_is ω l0 (7, 30) = true) : am_run (187, 0) 0 ([some (.inr (.inr l0)), some (.inl l1), some (.inl l2)], [], ω) = if am_in ω (am_get ω l0.toNat 7) 100 l1 = true then (if (am_get ω (am_get ω l0.toNat 7).toNat l1.toNat) = 2 then (some (some (.inl 0), ω)) else (if (am_get ω (am_get ω l0.toNat 7).toNat l1.toNat) = 3 then (some (some (.inl 0), ω)) else (if (am_get ω (am_get ω l0.toNat 7).toNat l1.toNat) = 4 then (some (some (.inl 0), ω)) else (if am_in ω (am_get ω l0.toNat 11) 100 l1 = true then (if ¬ (am_get ω (am_get ω l0.toNat 11).toNat l1.toNat) = 0 then (some (some (.inl 0), ω)) else (if ¬ l2 = 1 then (if am_in ω (am_get ω l0.toNat 8) 100 l1 = true then (if (am_get ω (am_get ω l0.toNat 8).toNat l1.toNat) ≤ 0 then (some (some (.inl 0), ω)) else (some (some (.inl 1), ω))) else none) else (if am_in ω (am_get ω l0.toNat 8) 100 l1 = true then (if (am_w ((am_get ω l0.toNat 3) - 1)) ≤ (am_get ω (am_get ω l0.toNat 8).toNat l1.toNat) then (some (some (.inl 0), ω)) else (some (some (.inl 1), ω))) else none))) else none)))) else none := by
  refine Eq.trans (rr_aload_n rfl rfl) ?_
  refine Eq.trans (rr_getfr rfl rfl rfl h1) ?_
  refine Eq.trans (rr_iload_n rfl rfl) ?_
  refine ck_it (fun h => rr_iaload rfl rfl h) (fun h => rr_iaload_no rfl rfl h) (fun h2 => ?_)
  refine Eq.trans (rr_iconst rfl rfl) ?_
  refine Eq.trans (rr_icmp_eq rfl rfl) (it_cg (fun _ => ?_) (fun _ => ?_))
  · refine Eq.trans (rr_iconst rfl rfl) ?_
    exact rr_ireturn rfl rfl
  · refine Eq.trans (rr_aload_n rfl rfl) ?_
    refine Eq.trans (rr_getfr rfl rfl rfl h1) ?_
    refine Eq.trans (rr_iload_n rfl rfl) ?_
    refine Eq.trans (rr_iaload rfl rfl h2) ?_
    refine Eq.trans (rr_iconst rfl rfl) ?_
    refine Eq.trans (rr_icmp_eq rfl rfl) (it_cg (fun _ => ?_) (fun _ => ?_))
    · refine Eq.trans (rr_iconst rfl rfl) ?_
      exact rr_ireturn rfl rfl
    · refine Eq.trans (rr_aload_n rfl rfl) ?_
      refine Eq.trans (rr_getfr rfl rfl rfl h1) ?_
      refine Eq.trans (rr_iload_n rfl rfl) ?_
      refine Eq.trans (rr_iaload rfl rfl h2) ?_
      refine Eq.trans (rr_iconst rfl rfl) ?_
      refine Eq.trans (rr_icmp_eq rfl rfl) (it_cg (fun _ => ?_) (fun _ => ?_))
      · refine Eq.trans (rr_iconst rfl rfl) ?_
        exact rr_ireturn rfl rfl
      · refine Eq.trans (rr_aload_n rfl rfl) ?_
        refine Eq.trans (rr_getfr rfl rfl rfl h1) ?_
        refine Eq.trans (rr_iload_n rfl rfl) ?_
        refine ck_it (fun h => rr_iaload rfl rfl h) (fun h => rr_iaload_no rfl rfl h) (fun h3 => ?_)
        refine Eq.trans (rr_if_ne rfl rfl) (it_cg (fun _ => ?_) (fun _ => ?_))
        · refine Eq.trans (rr_iconst rfl rfl) ?_
          exact rr_ireturn rfl rfl
        · refine Eq.trans (rr_iload_n rfl rfl) ?_
          refine Eq.trans (rr_iconst rfl rfl) ?_
          refine Eq.trans (rr_icmp_ne rfl rfl) (it_cg (fun _ => ?_) (fun _ => ?_))
          · refine Eq.trans (rr_aload_n rfl rfl) ?_
            refine Eq.trans (rr_getfr rfl rfl rfl h1) ?_
            refine Eq.trans (rr_iload_n rfl rfl) ?_
            refine ck_it (fun h => rr_iaload rfl rfl h) (fun h => rr_iaload_no rfl rfl h) (fun h4 => ?_)
            refine Eq.trans (rr_if_le rfl rfl) (it_cg (fun _ => ?_) (fun _ => ?_))
            · refine Eq.trans (rr_iconst rfl rfl) ?_
              exact rr_ireturn rfl rfl
            · refine Eq.trans (rr_iconst rfl rfl) ?_
              refine Eq.trans (rr_goto rfl rfl) ?_
              exact rr_ireturn rfl rfl
          · refine Eq.trans (rr_aload_n rfl rfl) ?_
            refine Eq.trans (rr_getfr rfl rfl rfl h1) ?_
            refine Eq.trans (rr_iload_n rfl rfl) ?_
            refine ck_it (fun h => rr_iaload rfl rfl h) (fun h => rr_iaload_no rfl rfl h) (fun h5 => ?_)
            refine Eq.trans (rr_aload_n rfl rfl) ?_
            refine Eq.trans (rr_getfi rfl rfl rfl h1) ?_
            refine Eq.trans (rr_iconst rfl rfl) ?_
            refine Eq.trans (rr_isub rfl) ?_
            refine Eq.trans (rr_icmp_ge rfl rfl) (it_cg (fun _ => ?_) (fun _ => ?_))
            · refine Eq.trans (rr_iconst rfl rfl) ?_
              exact rr_ireturn rfl rfl
            · refine Eq.trans (rr_goto rfl rfl) ?_
              refine Eq.trans (rr_iconst rfl rfl) ?_
              refine Eq.trans (rr_goto rfl rfl) ?_
              exact rr_ireturn rfl rfl
theorem pX7_priceOf_0 (l0 l1 l2 : Int) (ω : am_W) (h1 : am_is ω l0 (7, 30) = true) : am_run (188, 0) 0 ([some (.inr (.inr l0)), some (.inl l1), some (.inl l2)], [], ω) = if ¬ l2 = 1 then (if am_in ω (am_get ω l0.toNat 8) 100 l1 = true then (am_bi (am_run (184, 0) 0 ([some (.inr (.inr l0)), some (.inl l1), some (.inl (am_w ((am_get ω (am_get ω l0.toNat 8).toNat l1.toNat) - 1)))], [], ω)) (fun z1 ω1 => some (some (.inl z1), ω1))) else none) else (if am_in ω (am_get ω l0.toNat 8) 100 l1 = true then (am_bi (am_run (184, 0) 0 ([some (.inr (.inr l0)), some (.inl l1), some (.inl (am_get ω (am_get ω l0.toNat 8).toNat l1.toNat))], [], ω)) (fun z2 ω2 => some (some (.inl z2), ω2))) else none) := by
  refine Eq.trans (rr_aload_n rfl rfl) ?_
  refine Eq.trans (rr_iload_n rfl rfl) ?_
  refine Eq.trans (rr_iload_n rfl rfl) ?_
  refine Eq.trans (rr_iconst rfl rfl) ?_
  refine Eq.trans (rr_icmp_ne rfl rfl) (it_cg (fun _ => ?_) (fun _ => ?_))
  · refine Eq.trans (rr_aload_n rfl rfl) ?_
    refine Eq.trans (rr_getfr rfl rfl rfl h1) ?_
    refine Eq.trans (rr_iload_n rfl rfl) ?_
    refine ck_it (fun h => rr_iaload rfl rfl h) (fun h => rr_iaload_no rfl rfl h) (fun h2 => ?_)
    refine Eq.trans (rr_iconst rfl rfl) ?_
    refine Eq.trans (rr_isub rfl) ?_
    refine Eq.trans (rr_invV0i (S' := []) (L' := [some (.inr (.inr l0)), some (.inl l1), some (.inl (am_w ((am_get ω (am_get ω l0.toNat 8).toNat l1.toNat) - 1)))]) (m' := (184, 0)) rfl rfl rfl rfl rfl rfl h1) ?_
    refine bi_cg (fun z1 ω1 => ?_)
    exact rr_ireturn rfl rfl
  · refine Eq.trans (rr_aload_n rfl rfl) ?_
    refine Eq.trans (rr_getfr rfl rfl rfl h1) ?_
    refine Eq.trans (rr_iload_n rfl rfl) ?_
    refine ck_it (fun h => rr_iaload rfl rfl h) (fun h => rr_iaload_no rfl rfl h) (fun h3 => ?_)
    refine Eq.trans (rr_goto rfl rfl) ?_
    refine Eq.trans (rr_invV0i (S' := []) (L' := [some (.inr (.inr l0)), some (.inl l1), some (.inl (am_get ω (am_get ω l0.toNat 8).toNat l1.toNat))]) (m' := (184, 0)) rfl rfl rfl rfl rfl rfl h1) ?_
    refine bi_cg (fun z2 ω2 => ?_)
    exact rr_ireturn rfl rfl
theorem pX7_isCode_0 (l0 l1 l2 : Int) (ω : am_W) : am_run (189, 0) 0 ([some (.inr (.inr l0)), some (.inl l1), some (.inl l2)], [], ω) = if l2 = 0 then (some (some (.inl 1), ω)) else (am_bi (am_run (149, 0) 0 ([some (.inl l2), some (.inl 1), some (.inl 2)], [], ω)) (fun z1 ω1 => if z1 = 0 then (some (some (.inl 0), ω1)) else (if am_is ω1 l0 (7, 30) = true then (am_bi (am_run (187, 0) 0 ([some (.inr (.inr l0)), some (.inl l1), some (.inl l2)], [], ω1)) (fun z2 ω2 => if z2 = 0 then (some (some (.inl 0), ω2)) else (if am_is ω2 l0 (7, 30) = true then (if am_in ω2 (am_get ω2 l0.toNat 10) 100 l1 = true then (am_bi (am_run (188, 0) 0 ([some (.inr (.inr l0)), some (.inl l1), some (.inl l2)], [], ω2)) (fun z3 ω3 => if (am_get ω2 (am_get ω2 l0.toNat 10).toNat l1.toNat) < z3 then (some (some (.inl 0), ω3)) else (some (some (.inl 1), ω3)))) else none) else none))) else none))) := by
  refine Eq.trans (rr_iload_n rfl rfl) ?_
  refine Eq.trans (rr_if_eq rfl rfl) (it_cg (fun _ => ?_) (fun _ => ?_))
  · refine Eq.trans (rr_iconst rfl rfl) ?_
    refine Eq.trans (rr_goto rfl rfl) ?_
    exact rr_ireturn rfl rfl
  · refine Eq.trans (rr_iload_n rfl rfl) ?_
    refine Eq.trans (rr_iconst rfl rfl) ?_
    refine Eq.trans (rr_iconst rfl rfl) ?_
    refine Eq.trans (rr_invS2i (S' := []) (L' := [some (.inl l2), some (.inl 1), some (.inl 2)]) (m' := (149, 0)) rfl rfl rfl rfl rfl rfl) ?_
    refine bi_cg (fun z1 ω1 => ?_)
    refine Eq.trans (rr_if_eq rfl rfl) (it_cg (fun _ => ?_) (fun _ => ?_))
    · refine Eq.trans (rr_iconst rfl rfl) ?_
      exact rr_ireturn rfl rfl
    · refine Eq.trans (rr_aload_n rfl rfl) ?_
      refine Eq.trans (rr_iload_n rfl rfl) ?_
      refine Eq.trans (rr_iload_n rfl rfl) ?_
      refine ck_it (fun h => rr_invV0i (S' := []) (L' := [some (.inr (.inr l0)), some (.inl l1), some (.inl l2)]) (m' := (187, 0)) rfl rfl rfl rfl rfl rfl h) (fun h => rr_invV0_no (S' := []) (L' := [some (.inr (.inr l0)), some (.inl l1), some (.inl l2)]) (m' := (187, 0)) rfl rfl rfl rfl rfl rfl h) (fun h1 => ?_)
      refine bi_cg (fun z2 ω2 => ?_)
      refine Eq.trans (rr_if_eq rfl rfl) (it_cg (fun _ => ?_) (fun _ => ?_))
      · refine Eq.trans (rr_iconst rfl rfl) ?_
        exact rr_ireturn rfl rfl
      · refine Eq.trans (rr_aload_n rfl rfl) ?_
        refine ck_it (fun h => rr_getfr rfl rfl rfl h) (fun h => rr_getfield_no rfl rfl h) (fun h2 => ?_)
        refine Eq.trans (rr_iload_n rfl rfl) ?_
        refine ck_it (fun h => rr_iaload rfl rfl h) (fun h => rr_iaload_no rfl rfl h) (fun h3 => ?_)
        refine Eq.trans (rr_aload_n rfl rfl) ?_
        refine Eq.trans (rr_iload_n rfl rfl) ?_
        refine Eq.trans (rr_iload_n rfl rfl) ?_
        refine Eq.trans (rr_invV0i (S' := [.inl (am_get ω2 (am_get ω2 l0.toNat 10).toNat l1.toNat)]) (L' := [some (.inr (.inr l0)), some (.inl l1), some (.inl l2)]) (m' := (188, 0)) rfl rfl rfl rfl rfl rfl h2) ?_
        refine bi_cg (fun z3 ω3 => ?_)
        refine Eq.trans (rr_icmp_lt rfl rfl) (it_cg (fun _ => ?_) (fun _ => ?_))
        · refine Eq.trans (rr_iconst rfl rfl) ?_
          exact rr_ireturn rfl rfl
        · refine Eq.trans (rr_iconst rfl rfl) ?_
          refine Eq.trans (rr_goto rfl rfl) ?_
          exact rr_ireturn rfl rfl
