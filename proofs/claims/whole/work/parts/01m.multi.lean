/-! ===== new T[n][m], by its own words: the cells that it makes, and the step ===== -/
/-- a row -/
def mz_in (cy : ClassId) (K : Nat) (dv : Value) : Cell := { cls := cy, slots := Array.replicate K dv, vm := .none }
/-- the row of rows, of which i stand -/
def mz_out (cA : ClassId) (N h0 i : Nat) : Cell := arrV cA N (fun j => va_rf (if j < i then some (h0 + 1 + j) else none))
theorem mz_out_0 (cA : ClassId) (N h0 : Nat) : ({ cls := cA, slots := Array.replicate N .null } : Cell) = mz_out cA N h0 0 := by
  refine (arrV_new cA N .null).trans ?_
  exact congrArg (arrV cA N) (funext fun j => by rw [if_neg (Nat.not_lt_zero j)]; rfl)
theorem mz_out_s (cA : ClassId) (N h0 i : Nat) : (mz_out cA N h0 i).setSlot i (.ref (h0 + 1 + i)) = mz_out cA N h0 (i + 1) := by
  refine (arrV_store cA N i _ _).trans (congrArg (arrV cA N) (funext fun j => ?_))
  by_cases h : j = i
  · subst h
    rw [if_pos (Nat.lt_succ_self j)]
    simp [updV, va_rf]
  · have h2 : (j < i + 1) = (j < i) := propext ⟨fun q => by omega, fun q => by omega⟩
    simp only [updV, h, if_false, h2]
theorem mz_out_n (cA : ClassId) (N h0 i : Nat) : (mz_out cA N h0 i).slots.size = N := arrV_size cA N _
/-- the state with the row of rows and i rows -/
def mz_st (T : State) (cA cy : ClassId) (N K : Nat) (dv : Value) : Nat → State
  | 0 => T.pushCell (mz_out cA N T.heap.size 0)
  | i + 1 => ((mz_st T cA cy N K dv i).pushCell (mz_in cy K dv)).setCell T.heap.size (mz_out cA N T.heap.size (i + 1))
section MZ
variable {T : State} {cA cy : ClassId} {N K : Nat} {dv : Value}
theorem mz_vm : ∀ i, (mz_st T cA cy N K dv i).vm = T.vm
  | 0 => rfl
  | i + 1 => mz_vm i
theorem mz_size : ∀ i, (mz_st T cA cy N K dv i).heap.size = T.heap.size + 1 + i
  | 0 => by
    show (T.heap.push _).size = _
    rw [Array.size_push]
  | i + 1 => by
    show (((mz_st T cA cy N K dv i).heap.push _).setIfInBounds _ _).size = _
    rw [Array.size_setIfInBounds, Array.size_push, mz_size i]
    omega
theorem mz_used : ∀ i, (mz_st T cA cy N K dv i).slotsUsed = T.slotsUsed + N + i * K
  | 0 => by
    show T.slotsUsed + (mz_out cA N T.heap.size 0).slots.size = _
    rw [mz_out_n]
    omega
  | i + 1 => by
    show (mz_st T cA cy N K dv i).slotsUsed + (Array.replicate K dv).size = _
    rw [mz_used i, Array.size_replicate, Nat.succ_mul]
    omega
/-- a place of the heap behind one row more -/
theorem mz_get (i x : Nat) : (mz_st T cA cy N K dv (i + 1)).heap[x]? = if x = T.heap.size then some (mz_out cA N T.heap.size (i + 1)) else if x = T.heap.size + 1 + i then some (mz_in cy K dv) else (mz_st T cA cy N K dv i).heap[x]? := by
  show (((mz_st T cA cy N K dv i).heap.push (mz_in cy K dv)).setIfInBounds T.heap.size (mz_out cA N T.heap.size (i + 1)))[x]? = _
  have hz := mz_size (T := T) (cA := cA) (cy := cy) (N := N) (K := K) (dv := dv) i
  rw [Array.getElem?_setIfInBounds, Array.size_push, hz, Array.getElem?_push, hz]
  by_cases h : T.heap.size = x
  · rw [if_pos h, if_pos (by omega), if_pos h.symm]
  · rw [if_neg h, if_neg (show ¬ x = T.heap.size from fun q => h q.symm)]
theorem mz_get0 (x : Nat) : (mz_st T cA cy N K dv 0).heap[x]? = if x = T.heap.size then some (mz_out cA N T.heap.size 0) else T.heap[x]? := by
  show (T.heap.push (mz_out cA N T.heap.size 0))[x]? = _
  rw [Array.getElem?_push]
theorem mz_old {x : Nat} (hx : x < T.heap.size) : ∀ i, (mz_st T cA cy N K dv i).heap[x]? = T.heap[x]?
  | 0 => by rw [mz_get0, if_neg (by omega)]
  | i + 1 => by rw [mz_get, if_neg (by omega), if_neg (by omega), mz_old hx i]
theorem mz_at : ∀ i, (mz_st T cA cy N K dv i).heap[T.heap.size]? = some (mz_out cA N T.heap.size i)
  | 0 => by rw [mz_get0, if_pos rfl]
  | i + 1 => by rw [mz_get, if_pos rfl]
theorem mz_row {j : Nat} : ∀ i, j < i → (mz_st T cA cy N K dv i).heap[T.heap.size + 1 + j]? = some (mz_in cy K dv)
  | 0, h => absurd h (Nat.not_lt_zero j)
  | i + 1, h => by
    rw [mz_get, if_neg (by omega)]
    by_cases h2 : j = i
    · rw [if_pos (by omega)]
    · rw [if_neg (by omega)]
      exact mz_row i (by omega)
theorem mz_top (g : JFrame) : ∀ i, mz_st (T.setTop g) cA cy N K dv i = (mz_st T cA cy N K dv i).setTop g
  | 0 => by
    show (T.setTop g).pushCell (mz_out cA N (T.setTop g).heap.size 0) = _
    rw [State.heap_setTop, State.pushCell_setTop]
    rfl
  | i + 1 => by
    show ((mz_st (T.setTop g) cA cy N K dv i).pushCell (mz_in cy K dv)).setCell (T.setTop g).heap.size (mz_out cA N (T.setTop g).heap.size (i + 1)) = _
    rw [mz_top g i, State.heap_setTop, State.pushCell_setTop, State.setCell_setTop]
    rfl
/-- where the walk stands behind it: no old cell is changed -/
theorem mz_stand {p : Program} {l : Launch} {e : Env} {R : Room} {s : State} {m : MethodId} {args : Array Value} {below : List Frame} {meth : Method} {c : Code} {locs : List Loc} {cells slots : Nat} (X : Stand p l e R s m args below meth c T locs cells slots) : ∀ i, Stand p l e R s m args below meth c (mz_st T cA cy N K dv i) locs (cells + 1 + i) (slots + N + i * K)
  | 0 => by
    have h := X.pushed (mz_out cA N T.heap.size 0)
    rw [mz_out_n] at h
    rw [Nat.zero_mul]
    exact h
  | i + 1 => by
    have h1 := (mz_stand X i).pushed (mz_in cy K dv)
    have hc : ((mz_st T cA cy N K dv i).pushCell (mz_in cy K dv)).heap[T.heap.size]? = some (mz_out cA N T.heap.size i) := by
      show ((mz_st T cA cy N K dv i).heap.push (mz_in cy K dv))[T.heap.size]? = _
      rw [Array.getElem?_push, mz_size, if_neg (by omega), mz_at]
    have h2 := h1.stored hc i (.ref (T.heap.size + 1 + i))
    rw [mz_out_s] at h2
    have e1 : slots + N + i * K + (mz_in cy K dv).slots.size = slots + N + (i + 1) * K := by
      rw [show (mz_in cy K dv).slots.size = K from Array.size_replicate, Nat.succ_mul]
      omega
    rw [e1] at h2
    have h0 : s.heap.size ≤ T.heap.size := X.same.2.1
    exact ⟨h2.admits, h2.cas, h2.clock, h2.frames, h2.room, h2.hears, h2.method, h2.code, h2.here, h2.tail, h2.warmed, h2.limits, h2.bytes, h2.same.drop_fresh (fun x hx => by rw [List.mem_singleton.mp hx]; exact h0)⟩
/-- one row -/
theorem mz_one {Q : Addr → Pre} {E : CtlPost} {e : Env} {d : Bool} {acts : List Action} {ky : Class} {cz : ClassId} {ty : FieldType} {k : Int32} (h3 : T.vm.classes[cy]? = some ky) (h4 : ky.kind = .array cz ty) (hk : ¬ k < 0) (l2 : ¬ k.toNatClampNeg > e.platform.arrayLengthLimit) (b2 : ¬ k.toNatClampNeg * componentBytes ty > e.platform.maxHeapBytes) (r1 : T.heap.size < e.platform.maxCells) (r2 : T.slotsUsed + k.toNatClampNeg ≤ e.platform.maxSlots) (hf : fits ty (defaultValue ty) = true)
    (hq : ∀ acts', Q T.heap.size d acts' (T.pushCell (mz_in cy k.toNatClampNeg (defaultValue ty)))) : wp (multianewarray.make cy [k]) Q E e d acts T := by
  unfold multianewarray.make
  simp only [wp_bind', W.ite, hk, if_false, wp_pure', W.theClass, h3, Option.some.injEq, exists_eq_left', h4]
  exact W.newArray_of h3 h4 l2 b2 r1 r2 hf hq
theorem mz_make {Q : Addr → Pre} {E : CtlPost} {e : Env} {d : Bool} {acts : List Action} {kA ky : Class} {cz : ClassId} {ty : FieldType} {n k : Int32} (h1 : T.vm.classes[cA]? = some kA) (h2 : kA.kind = .array cy (.array ty)) (h3 : T.vm.classes[cy]? = some ky) (h4 : ky.kind = .array cz ty) (hn : ¬ n < 0) (hk : ¬ k < 0) (l1 : ¬ n.toNatClampNeg > e.platform.arrayLengthLimit) (l2 : ¬ k.toNatClampNeg > e.platform.arrayLengthLimit)
    (b1 : ¬ n.toNatClampNeg * componentBytes (.array ty) > e.platform.maxHeapBytes) (b2 : ¬ k.toNatClampNeg * componentBytes ty > e.platform.maxHeapBytes) (r1 : T.heap.size + (1 + n.toNatClampNeg) ≤ e.platform.maxCells) (r2 : T.slotsUsed + (n.toNatClampNeg + n.toNatClampNeg * k.toNatClampNeg) ≤ e.platform.maxSlots) (hf : fits ty (defaultValue ty) = true)
    (hq : ∀ d' acts', Q T.heap.size d' acts' (mz_st T cA cy n.toNatClampNeg k.toNatClampNeg (defaultValue ty) n.toNatClampNeg)) : wp (multianewarray.make cA [n, k]) Q E e d acts T := by
  unfold multianewarray.make
  simp only [wp_bind', W.ite, hn, if_false, wp_pure', W.theClass, h1, Option.some.injEq, exists_eq_left', h2]
  refine W.newArray_of h1 h2 l1 b1 (by omega) (by omega) rfl (fun acts1 => ?_)
  rw [mz_out_0 cA n.toNatClampNeg T.heap.size]
  have hz : [k].find? (fun x => decide (x < 0)) = none := by simp [hk]
  simp only [hz]
  rw [Std.Legacy.Range.forIn_eq_forIn_range', ite_self]
  simp only [wp_bind', wp_pure']
  generalize hN : n.toNatClampNeg = N at *
  generalize hK : k.toNatClampNeg = K at *
  rw [show List.range' (Std.Legacy.Range.mk 0 N 1 (by decide)).start (Std.Legacy.Range.mk 0 N 1 (by decide)).size (Std.Legacy.Range.mk 0 N 1 (by decide)).step = List.range' 0 N from by simp [Std.Legacy.Range.size]]
  refine wp_forIn_inv (fun rest U => ∃ i, rest = List.range' i (N - i) ∧ i ≤ N ∧ U = mz_st T cA cy N K (defaultValue ty) i) _ _ ⟨0, rfl, Nat.zero_le N, rfl⟩ (fun x rest U d' acts' Q' hI hc => ?_) (fun U d' acts' hI => ?_)
  · obtain ⟨i, hl, hi, rfl⟩ := hI
    have hlt : i < N := by
      rcases Nat.lt_or_ge i N with h | h
      · exact h
      · rw [show N - i = 0 by omega] at hl
        cases hl
    rw [show N - i = (N - (i + 1)) + 1 by omega, List.range'_succ] at hl
    obtain ⟨rfl, rfl⟩ := List.cons.inj hl
    have hz1 := mz_size (T := T) (cA := cA) (cy := cy) (N := N) (K := K) (dv := defaultValue ty) x
    have hu1 := mz_used (T := T) (cA := cA) (cy := cy) (N := N) (K := K) (dv := defaultValue ty) x
    have hv1 := mz_vm (T := T) (cA := cA) (cy := cy) (N := N) (K := K) (dv := defaultValue ty) x
    have hm : x * K + K ≤ N * K := by
      rw [← Nat.succ_mul]
      exact Nat.mul_le_mul_right K hlt
    simp only [wp_bind', wp_pure']
    refine mz_one (T := mz_st T cA cy N K (defaultValue ty) x) (ky := ky) (cz := cz) (by rw [hv1]; exact h3) h4 hk (by rw [hK]; exact l2) (by rw [hK]; exact b2) (by omega) (by rw [hK]; omega) hf (fun acts2 => ?_)
    rw [hK, wp_bind', W.writeLoc]
    have hc1 : ((mz_st T cA cy N K (defaultValue ty) x).pushCell (mz_in cy K (defaultValue ty))).heap[T.heap.size]? = some (mz_out cA N T.heap.size x) := by
      show ((mz_st T cA cy N K (defaultValue ty) x).heap.push (mz_in cy K (defaultValue ty)))[T.heap.size]? = _
      rw [Array.getElem?_push, mz_size, if_neg (by omega), mz_at]
    refine ⟨_, hc1, (fun h => by cases h), (by rw [mz_out_n]; exact hlt), ?_, ?_⟩
    · have hvv : ((mz_st T cA cy N K (defaultValue ty) x).pushCell (mz_in cy K (defaultValue ty))).vm.classes[cA]? = some kA := by
        show (mz_st T cA cy N K (defaultValue ty) x).vm.classes[cA]? = some kA
        rw [hv1]
        exact h1
      show State.fitsSlot _ cA .none x _ = true
      have hvw : (mz_st T cA cy N K (defaultValue ty) x).vm.classes[cA]? = some kA := hvv
      simp [State.fitsSlot, State.slotType?, hvw, h2, fits]
    · rw [wp_pure']
      refine hc _ _ _ ⟨x + 1, rfl, hlt, ?_⟩
      rw [hz1, mz_out_s]
      rfl
  · obtain ⟨i, hl, hi, rfl⟩ := hI
    have : i = N := by
      have h := congrArg List.length hl
      rw [List.length_range', List.length_nil] at h
      omega
    rw [this]
    exact hq _ _
end MZ
/-- what the word of an array over arrays says -/
theorem mz_over {args : Array Value} {s : State} {ty : FieldType} (h : (Cond.arrayOver (.array ty)).before args s = true) : ∃ (comp cA : ClassId) (kA : Class), s.vm.findClass (FieldType.array ty).toString = some comp ∧ s.vm.findClass ("[" ++ (FieldType.array ty).toString) = some cA ∧ s.vm.classes[cA]? = some kA ∧ kA.kind = .array comp (.array ty) := by
  have h1 : Cond.value args s none s [] (.arrayOver (.array ty)) = some true := by
    unfold Cond.before Cond.holds at h
    exact eq_of_beq h
  unfold Cond.value at h1
  obtain ⟨comp, hc, h2⟩ := Option.bind_eq_some_iff.mp h1
  obtain ⟨cA, hi, h3⟩ := Option.bind_eq_some_iff.mp h2
  obtain ⟨kA, hk, h4⟩ := Option.map_eq_some_iff.mp h3
  have h5 := (Array.findIdx?_eq_some_iff_getElem.mp hi).2.1
  have h6 := (Array.getElem?_eq_some_iff.mp hk).2
  rw [h6] at h5
  refine ⟨comp, cA, kA, hc, ?_⟩
  rcases hq : kA.kind with _ | _ | ⟨co, t⟩
  all_goals (rw [hq] at h4 h5; simp at h4 h5)
  exact ⟨h4.2, hk, by rw [h5, h4.1]⟩
/-- the step: the state behind it, where the walk stands there, and that it goes there -/
theorem mz_step {p : Program} {l : Launch} {e : Env} {R : Room} {s : State} {m : MethodId} {args : Array Value} {below : List Frame} {meth : Method} {c : Code} {T : State} {locs : List Loc} {cells slots : Nat} (X : Stand p l e R s m args below meth c T locs cells slots) (hexec : p.tables.exec = Jvm.exec) {own : String} {index : Nat} {ty : FieldType} (hown : s.vm.findClass own = some m.cls) (hclink : (Cond.classLink own index ("[" ++ (FieldType.array ty).toString)).before args s = true)
    (hover : (Cond.arrayOver (.array ty)).before args s = true) (harr : (Cond.arrayClass ty).before args s = true) {g : JFrame} (hg : g.method = m) (hdg : decode c.code g.pc = .ok (.multianewarray index 2, 4)) {n k : Int32} {rest : List Value} (hst : g.stack = .int k :: .int n :: rest) (hn : ¬ n < 0) (hk : ¬ k < 0) (hb1 : n.toNatClampNeg * 4 ≤ 536870912) (hb2 : k.toNatClampNeg * componentBytes ty ≤ 536870912) (hb3 : k.toNatClampNeg ≤ 536870912) (hf : fits ty (defaultValue ty) = true)
    (hcells : cells + (1 + n.toNatClampNeg) ≤ R.cells) (hslots : slots + (n.toNatClampNeg + n.toNatClampNeg * k.toNatClampNeg) ≤ R.slots) :
    ∃ (vm₁ : Vm) (cA cy : ClassId) (kA : Class), s.vm.findClass ("[" ++ (FieldType.array ty).toString) = some cA ∧ s.vm.findClass (FieldType.array ty).toString = some cy ∧ s.vm.classes[cA]? = some kA ∧ kA.kind = .array cy (.array ty) ∧
      Stand p l e R s m args below meth c (mz_st (T.setVm vm₁) cA cy n.toNatClampNeg k.toNatClampNeg (defaultValue ty) n.toNatClampNeg) locs (cells + 1 + n.toNatClampNeg) (slots + n.toNatClampNeg + n.toNatClampNeg * k.toNatClampNeg) ∧
      ∀ target, Steps p.tables e below ((mz_st (T.setVm vm₁) cA cy n.toNatClampNeg k.toNatClampNeg (defaultValue ty) n.toNatClampNeg).setTop { g with pc := g.pc + 4, stack := .ref T.heap.size :: rest }) target → Steps p.tables e below (T.setTop g) target := by
  subst hg
  obtain ⟨cy, cA, kA, hcy, hcA, hkA, hkd⟩ := mz_over hover
  obtain ⟨cy', ky, cz, hcy', hky, hkz⟩ := Cond.arrayClass_spec harr
  have hcc : cy' = cy := by
    have h : some cy' = some cy := hcy'.symm.trans hcy
    cases h
    rfl
  subst hcc
  have hpl : e.platform.magicAccessors = ({} : Platform).magicAccessors := by rw [X.admits.platform]
  obtain ⟨cB, hcB, hlk⟩ := Cond.classLink_spec hown hclink e.platform hpl
  have hcc : cB = cA := by
    have h : some cB = some cA := hcB.symm.trans hcA
    cases h
    rfl
  subst hcc
  obtain ⟨hgv, hwm, hrd⟩ := State.classEntry (e := e) X.warmed hlk
  generalize T.vm.noted g.method.cls index (.cls cB) = vm₁ at hgv hwm hrd
  have hal : s.vm.Alike vm₁ := hwm.alike
  obtain ⟨kA₁, hkA₁, eA⟩ := hal.2.2 _ _ hkA
  obtain ⟨ky₁, hky₁, ey⟩ := hal.2.2 _ _ hky
  have hkd₁ : kA₁.kind = .array cy' (.array ty) := by rw [eA]; exact hkd
  have hkz₁ : ky₁.kind = .array cz ty := by rw [ey]; exact hkz
  have hl1 : ¬ n.toNatClampNeg > e.platform.arrayLengthLimit := by rw [Launch.admits_arrayLengthLimit X.admits]; omega
  have hl2 : ¬ k.toNatClampNeg > e.platform.arrayLengthLimit := by rw [Launch.admits_arrayLengthLimit X.admits]; omega
  have hh1 : ¬ n.toNatClampNeg * componentBytes (.array ty) > e.platform.maxHeapBytes := by
    rw [Launch.admits_maxHeapBytes X.admits]
    show ¬ n.toNatClampNeg * 4 > 536870912
    omega
  have hh2 : ¬ k.toNatClampNeg * componentBytes ty > e.platform.maxHeapBytes := by rw [Launch.admits_maxHeapBytes X.admits]; omega
  obtain ⟨hr1, hr2⟩ := X.roomAbove hcells hslots
  refine ⟨vm₁, cB, cy', kA, hcA, hcy, hkA, hkd, mz_stand (X.noted hwm) _, fun target hrest => ?_⟩
  have hs : T.topJava?.isSome := X.here.top
  refine Steps.instr (c := c) X.here ?_
  rw [hdg]
  show wpRun (p.tables.exec (.multianewarray index 2)) _ _ e (T.setTop g)
  rw [hexec]
  show wp (multianewarray.sem index 2) _ _ e false [] (T.setTop g)
  unfold multianewarray.sem
  rw [wp_bind', W.resolveClassAt_transfer (s := T.setTop g) (State.method?_setTop g hs) hgv hrd, W.resolveClassAt_ready (s := (T.setTop g).setVm vm₁) (State.method?_setTop g hs) hrd, wp_bind', W.popN, if_neg (by decide)]
  refine ⟨g, State.topJava?_setTop' g hs, [.int n, .int k], rest, rfl, hst, ?_⟩
  have hU : ((T.setTop g).setVm vm₁).setTop { g with stack := rest } = (T.setVm vm₁).setTop { g with stack := rest } := State.setTop_setTop (T.setVm vm₁) g _
  rw [hU]
  have X₁ := X.noted hwm
  have X₂ := mz_stand (cA := cB) (cy := cy') (N := n.toNatClampNeg) (K := k.toNatClampNeg) (dv := defaultValue ty) X₁ n.toNatClampNeg
  simp only [List.mapM_cons, List.mapM_nil, wp_bind', wp_pure']
  refine mz_make (T := (T.setVm vm₁).setTop { g with stack := rest }) (kA := kA₁) (ky := ky₁) (cz := cz) hkA₁ hkd₁ hky₁ hkz₁ hn hk hl1 hl2 hh1 hh2 (by rw [State.heap_setTop]; exact hr1) (by rw [State.slotsUsed_setTop]; exact hr2) hf (fun d' acts' => ?_)
  rw [wp_bind', W.mark, W.pushRef, mz_top, State.heap_setTop]
  refine ⟨_, State.topJava?_setTop' _ X₂.here.top, fun acts2 => ?_⟩
  rw [State.setTop_setTop, afterInstr_ok]
  exact hrest
