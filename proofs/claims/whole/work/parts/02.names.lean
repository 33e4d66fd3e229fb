/-! ===== BEGIN words of one list among another's, by their places ===== -/
theorem goodIn_r {big : List Cond} (ws : List Cond) (ps : List Nat) (hp : ws = ps.filterMap (fun i => big[i]?)) (h : ws.all goodWord = true) : GoodIn big ws := by
  intro w hw
  have h1 := List.all_eq_true.mp h w hw
  rw [hp] at hw
  obtain ⟨i, -, hi⟩ := List.mem_filterMap.mp hw
  have hm : w ∈ big := by first | exact List.mem_of_getElem? hi | exact List.getElem?_mem hi
  exact ⟨hm, good_of_word h1⟩
theorem goodIn_app {big a b : List Cond} (ha : GoodIn big a) (hb : GoodIn big b) : GoodIn big (a ++ b) := fun w h => (List.mem_append.mp h).elim (ha w) (hb w)
theorem goodIn_ca {big a b : List Cond} {c : Cond} (ha : GoodIn big (c :: a)) (hb : GoodIn big b) : GoodIn big (c :: (a ++ b)) := fun w h => (List.mem_cons.mp h).elim (fun e => ha w (List.mem_cons.mpr (Or.inl e))) (fun h => (List.mem_append.mp h).elim (fun h => ha w (List.mem_cons.mpr (Or.inr h))) (hb w))
theorem goodIn_sub {big ws : List Cond} (hm : ∀ w ∈ ws, w ∈ big) (h : ws.all goodWord = true) : GoodIn big ws := fun w hw => ⟨hm w hw, good_of_word (List.all_eq_true.mp h w hw)⟩
/-! ===== END ===== -/

/-! ===== BEGIN new T[n][m]: the outer array a place, the inner ones among the pooled ===== -/
/-- f, but v at every address of l -/
def vr_up {α : Type} (f : Nat → α) (l : List Nat) (v : α) : Nat → α := fun a => if a ∈ l then v else f a
theorem vr_up_in {α : Type} {f : Nat → α} {l : List Nat} {v : α} {a : Nat} (h : a ∈ l) : vr_up f l v a = v := if_pos h
theorem vr_up_ne {α : Type} {f : Nat → α} {l : List Nat} {v : α} {a : Nat} (h : a ∉ l) : vr_up f l v a = f a := if_neg h
theorem vr_rows {L l : List Nat} {f : Nat → va_E} {e : va_E} (h : ∀ a, a ∈ l → a ∉ L) : va_pl L f ++ l.map (fun a => (a, e)) = va_pl (L ++ l) (vr_up f l e) := by
  unfold va_pl
  rw [List.map_append]
  congr 1
  · apply List.map_congr_left
    intro a ha
    rw [vr_up_ne (fun q => h a q ha)]
  · apply List.map_congr_left
    intro a ha
    rw [vr_up_in ha]
theorem vr_lay {X rows : va_W} {x : Nat × va_E} {pl : va_W} {D : va_G} {cl : List vw_C} {H : Heap} (hP : va_P D cl (((X ++ pl) ++ [x]) ++ rows) H) : va_P D cl ((X ++ [x]) ++ (pl ++ rows)) H := by
  rw [List.append_assoc (X ++ pl)] at hP
  have h := va_P.swap hP
  rw [← List.append_assoc X] at h
  have h2 := va_P.swap h
  rw [List.append_assoc (X ++ [x])] at h2
  exact h2
theorem vr_layD {X rows : va_W} {x : Nat × va_E} {pl : va_W} {A : Nat → Prop} (hD : va_D A (((X ++ pl) ++ [x]) ++ rows)) : va_D A ((X ++ [x]) ++ (pl ++ rows)) := by
  rw [List.append_assoc (X ++ pl)] at hD
  have h := va_D.swap hD
  rw [← List.append_assoc X] at h
  have h2 := va_D.swap h
  rw [List.append_assoc (X ++ [x])] at h2
  exact h2
/-- the NAMES text names this word but nothing defines it: an array of arrays over a type -/
def am_AOA (ty : FieldType) (U : State) : Prop := (Cond.arrayOver (.array ty)).before #[] U = true
theorem am_AOA.use {ty : FieldType} {A : Array Value} {U : State} (h : am_AOA ty U) : (Cond.arrayOver (.array ty)).before A U = true := h
section VGM
variable {p : Program} {l : Launch} {e : Env} {R : Room} {s : State} {m : MethodId} {args : Array Value} {below : List Frame} {meth : Method} {c : Code} {H : Heap} {locs : List Loc} {cells slots : Nat} {Q : State → Prop}
variable {cc : ByteArray} {pc : Nat} {ls : Array Slot} {rest : List Value} {D : va_G} {cl : List vw_C} {A : Nat → Prop} {a : Nat} {tys : List (ClassId × FieldType)} {ws : va_W} {H0 : Heap}
theorem va_mna {X : va_W} {L : List Nat} {f : Nat → va_E} {cc : ByteArray} (hexec : p.tables.exec = Jvm.exec) (hb : c.code = cc) {own : String} {index : Nat} {ty : FieldType} {cy : ClassId} (hown : s.vm.findClass own = some m.cls) (hclink : (Cond.classLink own index ("[" ++ (FieldType.array ty).toString)).before args s = true) (hover : am_AOA ty s) (harr : (Cond.arrayClass ty).before args s = true) (hcy : s.vm.findClass (FieldType.array ty).toString = some cy)
    (hK : va_K D cl tys s) (hP : va_P D cl (X ++ va_pl L f) H) (hD : va_D A (X ++ va_pl L f)) (hS : va_S A H0 H locs) (hA : ∀ q, H0.size ≤ q → A q) {n k : Int32} {N' K' : Nat} {z : vp_A} (hn : ¬ n < 0) (hk : ¬ k < 0) (hN : n.toNatClampNeg = N') (hM : k.toNatClampNeg = K')
    (hb1 : N' * 4 ≤ 536870912) (hb2 : K' * componentBytes ty ≤ 536870912) (hb3 : K' ≤ 536870912) (hdf : fits ty (defaultValue ty) = true) (hdd : (defaultValue ty).isDefault = true) (hcells : cells + (1 + N') ≤ R.cells) (hslots : slots + (N' + N' * K') ≤ R.slots) (hz : ∀ c : ClassId, mz_in c K' (defaultValue ty) = vp_cell c z) (hdg : decode cc pc = .ok (.multianewarray index 2, 4))
    (kk : ∀ (q : Nat) (r : Nat → Nat) (cA : ClassId) (H1 : Heap), (∀ i j : Nat, i < N' → j < N' → r i = r j → i = j) → (∀ i : Nat, i < N' → r i ∉ L) → va_K D cl (tys ++ [(cA, .array ty)]) s →
      va_P D cl ((X ++ [(q, .inl (cA, N', .inr (.inr (.inr (.inr (fun i => if i < N' then some (r i) else none))))))]) ++ va_pl (L ++ (List.range N').map r) (vr_up f ((List.range N').map r) (.inl (cy, z)))) H1 → va_D A ((X ++ [(q, .inl (cA, N', .inr (.inr (.inr (.inr (fun i => if i < N' then some (r i) else none))))))]) ++ va_pl (L ++ (List.range N').map r) (vr_up f ((List.range N').map r) (.inl (cy, z)))) → va_S A H0 H1 locs →
      W p l e R s m args below meth c H1 locs (cells + 1 + N') (slots + N' + N' * K') Q (F0 m (pc + 4) ls (.ref q :: rest))) : W p l e R s m args below meth c H locs cells slots Q (F0 m pc ls (.int k :: .int n :: rest)) := by
  subst hN
  subst hM
  intro T hT Xs
  obtain ⟨vm₁, cA, comp, kA, fA, fC, fK, fQ, X', step⟩ := mz_step Xs hexec hown hclink (am_AOA.use hover) harr (g := F0 m pc ls (.int k :: .int n :: rest)) rfl (by rw [hb]; exact hdg) rfl hn hk hb1 hb2 hb3 hdf hcells hslots
  have ec : some cy = some comp := hcy.symm.trans fC
  cases ec
  have hTh : (T.setVm vm₁).heap = H := hT
  have f1 := mz_size (T := T.setVm vm₁) (cA := cA) (cy := cy) (N := n.toNatClampNeg) (K := k.toNatClampNeg) (dv := defaultValue ty) n.toNatClampNeg
  have f2 := mz_at (T := T.setVm vm₁) (cA := cA) (cy := cy) (N := n.toNatClampNeg) (K := k.toNatClampNeg) (dv := defaultValue ty) n.toNatClampNeg
  have f3 := fun (x : Nat) (hx : x < (T.setVm vm₁).heap.size) => mz_old (cA := cA) (cy := cy) (N := n.toNatClampNeg) (K := k.toNatClampNeg) (dv := defaultValue ty) hx n.toNatClampNeg
  have f4 := fun (j : Nat) (hj : j < n.toNatClampNeg) => mz_row (T := T.setVm vm₁) (cA := cA) (cy := cy) (N := n.toNatClampNeg) (K := k.toNatClampNeg) (dv := defaultValue ty) n.toNatClampNeg hj
  generalize mz_st (T.setVm vm₁) cA cy n.toNatClampNeg k.toNatClampNeg (defaultValue ty) n.toNatClampNeg = F at X' step f1 f2 f3 f4
  rw [hTh] at f1 f2 f3 f4
  have hold : ∀ x : Nat, x < H.size → F.heap[x]? = H[x]? := f3
  have hrow : ∀ j : Nat, j < n.toNatClampNeg → F.heap[H.size + 1 + j]? = some (vp_cell cy z) := fun j hj => by
    rw [← hz]
    exact f4 j hj
  rw [show mz_out cA n.toNatClampNeg H.size n.toNatClampNeg = vp_cell cA (n.toNatClampNeg, .inr (.inr (.inr (.inr (fun i => if i < n.toNatClampNeg then some (H.size + 1 + i) else none))))) from rfl] at f2
  have hlt : ∀ a, a ∈ L → a < H.size := fun a ha => by
    obtain ⟨k9, hk9⟩ := va_pl_get (X := X) (f := f) ha
    exact (hP k9 _ hk9).lt
  have hnl : ∀ i : Nat, i < n.toNatClampNeg → H.size + 1 + i ∉ L := fun i _ h => by
    have := hlt _ h
    omega
  have hnm : ∀ a, a ∈ (List.range n.toNatClampNeg).map (fun i => H.size + 1 + i) → a ∉ L := fun a ha h => by
    obtain ⟨i, -, rfl⟩ := List.mem_map.mp ha
    have := hlt _ h
    omega
  have hP0 : va_P D cl (X ++ va_pl L f) F.heap := hP.kept (fun k9 x hx => hold x.1 ((hP k9 x hx).lt))
  have hP1 : va_P D cl ((X ++ va_pl L f) ++ [(H.size, .inl (cA, n.toNatClampNeg, .inr (.inr (.inr (.inr (fun i => if i < n.toNatClampNeg then some (H.size + 1 + i) else none))))))]) F.heap := hP0.app (fun k9 x hx => by
    have h0 : k9 < 1 := (List.getElem?_eq_some_iff.mp hx).1
    rw [show k9 = 0 by omega] at hx
    cases hx
    exact f2)
  have hP2 : va_P D cl (((X ++ va_pl L f) ++ [(H.size, .inl (cA, n.toNatClampNeg, .inr (.inr (.inr (.inr (fun i => if i < n.toNatClampNeg then some (H.size + 1 + i) else none))))))]) ++ ((List.range n.toNatClampNeg).map (fun i => H.size + 1 + i)).map (fun a => (a, .inl (cy, z)))) F.heap := hP1.app (fun k9 x hx => by
    obtain ⟨a, ha, rfl⟩ := List.mem_map.mp (List.mem_of_getElem? hx)
    obtain ⟨i, hi, rfl⟩ := List.mem_map.mp ha
    exact hrow i (List.mem_range.mp hi))
  have hD2 : va_D A (((X ++ va_pl L f) ++ [(H.size, .inl (cA, n.toNatClampNeg, .inr (.inr (.inr (.inr (fun i => if i < n.toNatClampNeg then some (H.size + 1 + i) else none))))))]) ++ ((List.range n.toNatClampNeg).map (fun i => H.size + 1 + i)).map (fun a => (a, .inl (cy, z)))) := by
    have hD1 := hD.push (e := .inl (cA, n.toNatClampNeg, .inr (.inr (.inr (.inr (fun i => if i < n.toNatClampNeg then some (H.size + 1 + i) else none)))))) hP rfl (hA _ hS.1)
    generalize hW1 : (X ++ va_pl L f) ++ [(H.size, .inl (cA, n.toNatClampNeg, .inr (.inr (.inr (.inr (fun i => if i < n.toNatClampNeg then some (H.size + 1 + i) else none))))))] = W1 at hD1 hP1 ⊢
    have hle : ∀ (k9 : Nat) (x : Nat × va_E), W1[k9]? = some x → x.1 ≤ H.size := fun k9 x hx => by
      rw [← hW1] at hx
      by_cases hl : k9 < (X ++ va_pl L f).length
      · rw [List.getElem?_append_left hl] at hx
        exact Nat.le_of_lt ((hP k9 x hx).lt)
      · rw [List.getElem?_append_right (by omega)] at hx
        have h0 : k9 - (X ++ va_pl L f).length < 1 := (List.getElem?_eq_some_iff.mp hx).1
        rw [show k9 - (X ++ va_pl L f).length = 0 by omega] at hx
        cases hx
        exact Nat.le_refl _
    have hr : ∀ (k9 : Nat) (x : Nat × va_E), (((List.range n.toNatClampNeg).map (fun i => H.size + 1 + i)).map (fun a => ((a, .inl (cy, z)) : Nat × va_E)))[k9]? = some x → x.1 = H.size + 1 + k9 := fun k9 x hx => by
      rw [List.getElem?_map, List.getElem?_map] at hx
      by_cases h9 : k9 < n.toNatClampNeg
      · rw [List.getElem?_range h9] at hx
        cases hx
        rfl
      · have hn0 : (List.range n.toNatClampNeg)[k9]? = none := List.getElem?_eq_none (by rw [List.length_range]; omega)
        rw [hn0] at hx
        cases hx
    refine ⟨fun i j x y hi hj hxy => ?_, fun k9 x hx => ?_⟩
    · by_cases h1 : i < W1.length <;> by_cases h2 : j < W1.length
      · rw [List.getElem?_append_left h1] at hi
        rw [List.getElem?_append_left h2] at hj
        exact hD1.1 i j x y hi hj hxy
      · rw [List.getElem?_append_left h1] at hi
        rw [List.getElem?_append_right (by omega)] at hj
        have := hle _ _ hi
        have := hr _ _ hj
        omega
      · rw [List.getElem?_append_right (by omega)] at hi
        rw [List.getElem?_append_left h2] at hj
        have := hle _ _ hj
        have := hr _ _ hi
        omega
      · rw [List.getElem?_append_right (by omega)] at hi hj
        have := hr _ _ hi
        have := hr _ _ hj
        omega
    · by_cases h1 : k9 < W1.length
      · rw [List.getElem?_append_left h1] at hx
        exact hD1.2 k9 x hx
      · rw [List.getElem?_append_right (by omega)] at hx
        have := hr _ _ hx
        exact hA _ (by have := hS.1; omega)
  have hAr : ArrOfT s cA (.array ty) := fun N9 z9 => ⟨(fun q hq => by cases hq), kA, fK, cy, fQ⟩
  have hK2 : va_K D cl (tys ++ [(cA, .array ty)]) s := ⟨hK.1, fun k9 x hx => by
    by_cases hl : k9 < tys.length
    · rw [List.getElem?_append_left hl] at hx
      exact hK.2 k9 x hx
    · rw [List.getElem?_append_right (by omega)] at hx
      have h0 : k9 - tys.length < 1 := (List.getElem?_eq_some_iff.mp hx).1
      rw [show k9 - tys.length = 0 by omega] at hx
      cases hx
      exact ⟨hAr, fA⟩⟩
  obtain ⟨t, a1, b1⟩ := kk H.size (fun i => H.size + 1 + i) cA F.heap (fun i j _ _ h => by have h9 : H.size + 1 + i = H.size + 1 + j := h; omega) hnl hK2 (by rw [← vr_rows hnm]; exact vr_lay hP2) (by rw [← vr_rows hnm]; exact vr_layD hD2) ⟨by rw [f1]; have := hS.1; omega, fun x h1 h2 => (hold x (Nat.lt_of_lt_of_le h1 hS.1)).trans (hS.2.1 x h1 h2), hS.2.2⟩ F rfl X'
  refine ⟨t, step t ?_, b1⟩
  have e : T.heap.size = H.size := by rw [hT]
  rw [e]
  exact a1
end VGM
/-! ===== END ===== -/

def RX0 : String := "FasterToBeLater$Chase"
def TX0 : u_T := fun k => match k with
  | 0 => ("FasterToBeLater$Chase", "sky", "LFasterToBeLater$World;", true)
  | 1 => ("FasterToBeLater$Chase", "chasers", "[LFasterToBeLater$Vessel;", true)
  | _ => ("FasterToBeLater$Chase", "runners", "[LFasterToBeLater$Vessel;", true)
def tyX0 : Nat → FieldType := fun k => match k with
  | 0 => .object "FasterToBeLater$World"
  | 1 => .array (.object "FasterToBeLater$Vessel")
  | _ => .array (.object "FasterToBeLater$Vessel")
theorem nmX0 : ∀ a, a < 3 → ∀ b, b < 3 → a ≠ b → (TX0 a).2.1 ≠ (TX0 b).2.1 := by decide +kernel
theorem tyX0_ok : ∀ k, k < 3 → parseFieldDescriptor (TX0 k).2.2.1 = some (tyX0 k) := by decide +kernel
abbrev cX0_init : ByteArray := prog_2_method_1_code
def yX0_init : MethodName := ⟨RX0, "<init>", "(LFasterToBeLater$World;)V"⟩
abbrev cX0_isWon : ByteArray := prog_2_method_2_code
def yX0_isWon : MethodName := ⟨RX0, "isWon", "(III)Z"⟩
abbrev cX0_catches : ByteArray := prog_2_method_3_code
def yX0_catches : MethodName := ⟨RX0, "catches", "(II)Z"⟩
abbrev cX0_catchesAll : ByteArray := prog_2_method_4_code
def yX0_catchesAll : MethodName := ⟨RX0, "catchesAll", "(II)Z"⟩
def RX1 : String := "FasterToBeLater$Planner"
def TX1 : u_T := fun k => match k with
  | 0 => ("FasterToBeLater$Planner", "sky", "LFasterToBeLater$World;", true)
  | 1 => ("FasterToBeLater$Planner", "spots", "[I", true)
  | 2 => ("FasterToBeLater$Planner", "spotCount", "I", false)
  | 3 => ("FasterToBeLater$Planner", "targets", "[[I", true)
  | 4 => ("FasterToBeLater$Planner", "lengths", "[[I", true)
  | 5 => ("FasterToBeLater$Planner", "prices", "[[I", true)
  | 6 => ("FasterToBeLater$Planner", "ring", "[[I", true)
  | 7 => ("FasterToBeLater$Planner", "toGo", "[I", true)
  | 8 => ("FasterToBeLater$Planner", "members", "[I", true)
  | 9 => ("FasterToBeLater$Planner", "memberSpots", "[I", true)
  | 10 => ("FasterToBeLater$Planner", "memberCount", "I", false)
  | 11 => ("FasterToBeLater$Planner", "whole", "I", false)
  | 12 => ("FasterToBeLater$Planner", "limit", "I", false)
  | 13 => ("FasterToBeLater$Planner", "fewest", "I", false)
  | _ => ("FasterToBeLater$Planner", "first", "I", false)
def tyX1 : Nat → FieldType := fun k => match k with
  | 0 => .object "FasterToBeLater$World"
  | 1 => .array .int
  | 2 => .int
  | 3 => .array (.array .int)
  | 4 => .array (.array .int)
  | 5 => .array (.array .int)
  | 6 => .array (.array .int)
  | 7 => .array .int
  | 8 => .array .int
  | 9 => .array .int
  | 10 => .int
  | 11 => .int
  | 12 => .int
  | 13 => .int
  | _ => .int
theorem nmX1 : ∀ a, a < 15 → ∀ b, b < 15 → a ≠ b → (TX1 a).2.1 ≠ (TX1 b).2.1 := by decide +kernel
theorem tyX1_ok : ∀ k, k < 15 → parseFieldDescriptor (TX1 k).2.2.1 = some (tyX1 k) := by decide +kernel
abbrev cX1_init : ByteArray := prog_3_method_1_code
def yX1_init : MethodName := ⟨RX1, "<init>", "(LFasterToBeLater$World;)V"⟩
abbrev cX1_fewestDrops : ByteArray := prog_3_method_2_code
def yX1_fewestDrops : MethodName := ⟨RX1, "fewestDrops", "(LFasterToBeLater$Vessel;II)I"⟩
abbrev cX1_firstStep : ByteArray := prog_3_method_3_code
def yX1_firstStep : MethodName := ⟨RX1, "firstStep", "(LFasterToBeLater$Vessel;I)I"⟩
abbrev cX1_dropsThrough : ByteArray := prog_3_method_4_code
def yX1_dropsThrough : MethodName := ⟨RX1, "dropsThrough", "(LFasterToBeLater$Vessel;LFasterToBeLater$Shelf;I)I"⟩
abbrev cX1_keepOnly : ByteArray := prog_3_method_5_code
def yX1_keepOnly : MethodName := ⟨RX1, "keepOnly", "(II)I"⟩
abbrev cX1_prepare : ByteArray := prog_3_method_6_code
def yX1_prepare : MethodName := ⟨RX1, "prepare", "(LFasterToBeLater$Vessel;II)V"⟩
abbrev cX1_chart : ByteArray := prog_3_method_7_code
def yX1_chart : MethodName := ⟨RX1, "chart", "(LFasterToBeLater$Vessel;)V"⟩
abbrev cX1_chartChange : ByteArray := prog_3_method_8_code
def yX1_chartChange : MethodName := ⟨RX1, "chartChange", "(LFasterToBeLater$Vessel;III)V"⟩
abbrev cX1_gather : ByteArray := prog_3_method_9_code
def yX1_gather : MethodName := ⟨RX1, "gather", "(I)V"⟩
abbrev cX1_visit : ByteArray := prog_3_method_10_code
def yX1_visit : MethodName := ⟨RX1, "visit", "(I)V"⟩
abbrev cX1_arrive : ByteArray := prog_3_method_11_code
def yX1_arrive : MethodName := ⟨RX1, "arrive", "(IIII)V"⟩
abbrev cX1_finish : ByteArray := prog_3_method_12_code
def yX1_finish : MethodName := ⟨RX1, "finish", "(II)V"⟩
abbrev cX1_spread : ByteArray := prog_3_method_13_code
def yX1_spread : MethodName := ⟨RX1, "spread", "(IIII)V"⟩
abbrev cX1_codeOfWay : ByteArray := prog_3_method_14_code
def yX1_codeOfWay : MethodName := ⟨RX1, "codeOfWay", "(LFasterToBeLater$Vessel;II)I"⟩
abbrev cX1_setToGo : ByteArray := prog_3_method_15_code
def yX1_setToGo : MethodName := ⟨RX1, "setToGo", "(III)V"⟩
abbrev cX1_firstBestCode : ByteArray := prog_3_method_16_code
def yX1_firstBestCode : MethodName := ⟨RX1, "firstBestCode", "(III)I"⟩
abbrev cX1_dropsBy : ByteArray := prog_3_method_17_code
def yX1_dropsBy : MethodName := ⟨RX1, "dropsBy", "(IIII)I"⟩
abbrev cX1_slotOf : ByteArray := prog_3_method_18_code
def yX1_slotOf : MethodName := ⟨RX1, "slotOf", "(I)I"⟩
def RX2 : String := "FasterToBeLater$Shelf"
def TX2 : u_T := fun k => match k with
  | 0 => ("FasterToBeLater$Shelf", "content", "I", false)
  | 1 => ("FasterToBeLater$Shelf", "size", "I", false)
  | _ => ("FasterToBeLater$Shelf", "elements", "[J", true)
def tyX2 : Nat → FieldType := fun k => match k with
  | 0 => .int
  | 1 => .int
  | _ => .array .long
theorem nmX2 : ∀ a, a < 3 → ∀ b, b < 3 → a ≠ b → (TX2 a).2.1 ≠ (TX2 b).2.1 := by decide +kernel
theorem tyX2_ok : ∀ k, k < 3 → parseFieldDescriptor (TX2 k).2.2.1 = some (tyX2 k) := by decide +kernel
abbrev cX2_init : ByteArray := prog_4_method_1_code
def yX2_init : MethodName := ⟨RX2, "<init>", "()V"⟩
abbrev cX2_isEmpty : ByteArray := prog_4_method_2_code
def yX2_isEmpty : MethodName := ⟨RX2, "isEmpty", "()Z"⟩
abbrev cX2_isShip : ByteArray := prog_4_method_3_code
def yX2_isShip : MethodName := ⟨RX2, "isShip", "()Z"⟩
abbrev cX2_isRow : ByteArray := prog_4_method_4_code
def yX2_isRow : MethodName := ⟨RX2, "isRow", "()Z"⟩
abbrev cX2_shipNumber : ByteArray := prog_4_method_5_code
def yX2_shipNumber : MethodName := ⟨RX2, "shipNumber", "()I"⟩
abbrev cX2_beEmpty : ByteArray := prog_4_method_6_code
def yX2_beEmpty : MethodName := ⟨RX2, "beEmpty", "()V"⟩
abbrev cX2_beShip : ByteArray := prog_4_method_7_code
def yX2_beShip : MethodName := ⟨RX2, "beShip", "(I)V"⟩
abbrev cX2_beRow : ByteArray := prog_4_method_8_code
def yX2_beRow : MethodName := ⟨RX2, "beRow", "(II)V"⟩
abbrev cX2_hasPart : ByteArray := prog_4_method_9_code
def yX2_hasPart : MethodName := ⟨RX2, "hasPart", "(II)Z"⟩
abbrev cX2_put : ByteArray := prog_4_method_10_code
def yX2_put : MethodName := ⟨RX2, "put", "(IJ)V"⟩
abbrev cX2_narrowed : ByteArray := prog_4_method_11_code
def yX2_narrowed : MethodName := ⟨RX2, "narrowed", "(J)J"⟩
def RX3 : String := "FasterToBeLater$Tape"
def TX3 : u_T := fun k => match k with
  | 0 => ("FasterToBeLater$Tape", "letters", "[I", true)
  | 1 => ("FasterToBeLater$Tape", "size", "I", false)
  | 2 => ("FasterToBeLater$Tape", "draft", "LFasterToBeLater$World;", true)
  | 3 => ("FasterToBeLater$Tape", "sort", "I", false)
  | 4 => ("FasterToBeLater$Tape", "start", "I", false)
  | 5 => ("FasterToBeLater$Tape", "end", "I", false)
  | _ => ("FasterToBeLater$Tape", "fault", "I", false)
def tyX3 : Nat → FieldType := fun k => match k with
  | 0 => .array .int
  | 1 => .int
  | 2 => .object "FasterToBeLater$World"
  | 3 => .int
  | 4 => .int
  | 5 => .int
  | _ => .int
theorem nmX3 : ∀ a, a < 7 → ∀ b, b < 7 → a ≠ b → (TX3 a).2.1 ≠ (TX3 b).2.1 := by decide +kernel
theorem tyX3_ok : ∀ k, k < 7 → parseFieldDescriptor (TX3 k).2.2.1 = some (tyX3 k) := by decide +kernel
abbrev cX3_init : ByteArray := prog_5_method_1_code
def yX3_init : MethodName := ⟨RX3, "<init>", "()V"⟩
abbrev cX3_read : ByteArray := prog_5_method_2_code
def yX3_read : MethodName := ⟨RX3, "read", "(LFasterToBeLater$World;)I"⟩
abbrev cX3_readStatement : ByteArray := prog_5_method_3_code
def yX3_readStatement : MethodName := ⟨RX3, "readStatement", "()V"⟩
abbrev cX3_readCircles : ByteArray := prog_5_method_4_code
def yX3_readCircles : MethodName := ⟨RX3, "readCircles", "()V"⟩
abbrev cX3_readTime : ByteArray := prog_5_method_5_code
def yX3_readTime : MethodName := ⟨RX3, "readTime", "()V"⟩
abbrev cX3_readCost : ByteArray := prog_5_method_6_code
def yX3_readCost : MethodName := ⟨RX3, "readCost", "()V"⟩
abbrev cX3_readShip : ByteArray := prog_5_method_7_code
def yX3_readShip : MethodName := ⟨RX3, "readShip", "()V"⟩
abbrev cX3_readSteps : ByteArray := prog_5_method_8_code
def yX3_readSteps : MethodName := ⟨RX3, "readSteps", "()V"⟩
abbrev cX3_readNumber : ByteArray := prog_5_method_9_code
def yX3_readNumber : MethodName := ⟨RX3, "readNumber", "(II)I"⟩
abbrev cX3_numberHere : ByteArray := prog_5_method_10_code
def yX3_numberHere : MethodName := ⟨RX3, "numberHere", "()I"⟩
abbrev cX3_isWord : ByteArray := prog_5_method_11_code
def yX3_isWord : MethodName := ⟨RX3, "isWord", "(Ljava/lang/String;)Z"⟩
abbrev cX3_takeToken : ByteArray := prog_5_method_12_code
def yX3_takeToken : MethodName := ⟨RX3, "takeToken", "()V"⟩
abbrev cX3_sortAt : ByteArray := prog_5_method_13_code
def yX3_sortAt : MethodName := ⟨RX3, "sortAt", "(I)I"⟩
def RX4 : String := "FasterToBeLater$Vessel"
def TX4 : u_T := fun k => match k with
  | 0 => ("FasterToBeLater$Vessel", "kind", "I", false)
  | 1 => ("FasterToBeLater$Vessel", "circle", "I", false)
  | 2 => ("FasterToBeLater$Vessel", "place", "I", false)
  | 3 => ("FasterToBeLater$Vessel", "drops", "I", false)
  | _ => ("FasterToBeLater$Vessel", "busy", "I", false)
def tyX4 : Nat → FieldType := fun k => match k with
  | 0 => .int
  | 1 => .int
  | 2 => .int
  | 3 => .int
  | _ => .int
theorem nmX4 : ∀ a, a < 5 → ∀ b, b < 5 → a ≠ b → (TX4 a).2.1 ≠ (TX4 b).2.1 := by decide +kernel
theorem tyX4_ok : ∀ k, k < 5 → parseFieldDescriptor (TX4 k).2.2.1 = some (tyX4 k) := by decide +kernel
abbrev cX4_init : ByteArray := prog_6_method_1_code
def yX4_init : MethodName := ⟨RX4, "<init>", "()V"⟩
abbrev cX4_become : ByteArray := prog_6_method_2_code
def yX4_become : MethodName := ⟨RX4, "become", "(LFasterToBeLater$Vessel;)V"⟩
abbrev cX4_isWith : ByteArray := prog_6_method_3_code
def yX4_isWith : MethodName := ⟨RX4, "isWith", "(LFasterToBeLater$Vessel;)Z"⟩
abbrev cX4_isOf : ByteArray := prog_6_method_4_code
def yX4_isOf : MethodName := ⟨RX4, "isOf", "(I)Z"⟩
abbrev cX4_steers : ByteArray := prog_6_method_5_code
def yX4_steers : MethodName := ⟨RX4, "steers", "()Z"⟩
abbrev cX4_busyBehind : ByteArray := prog_6_method_6_code
def yX4_busyBehind : MethodName := ⟨RX4, "busyBehind", "(I)I"⟩
def RX5 : String := "FasterToBeLater$World"
def TX5 : u_T := fun k => match k with
  | 0 => ("FasterToBeLater$World", "circleCount", "I", false)
  | 1 => ("FasterToBeLater$World", "times", "[I", true)
  | 2 => ("FasterToBeLater$World", "costs", "[I", true)
  | 3 => ("FasterToBeLater$World", "shipCount", "I", false)
  | 4 => ("FasterToBeLater$World", "ships", "[LFasterToBeLater$Vessel;", true)
  | 5 => ("FasterToBeLater$World", "clock", "I", false)
  | 6 => ("FasterToBeLater$World", "hits", "I", false)
  | _ => ("FasterToBeLater$World", "seed", "I", false)
def tyX5 : Nat → FieldType := fun k => match k with
  | 0 => .int
  | 1 => .array .int
  | 2 => .array .int
  | 3 => .int
  | 4 => .array (.object "FasterToBeLater$Vessel")
  | 5 => .int
  | 6 => .int
  | _ => .int
theorem nmX5 : ∀ a, a < 8 → ∀ b, b < 8 → a ≠ b → (TX5 a).2.1 ≠ (TX5 b).2.1 := by decide +kernel
theorem tyX5_ok : ∀ k, k < 8 → parseFieldDescriptor (TX5 k).2.2.1 = some (tyX5 k) := by decide +kernel
abbrev cX5_init : ByteArray := prog_7_method_1_code
def yX5_init : MethodName := ⟨RX5, "<init>", "()V"⟩
abbrev cX5_become : ByteArray := prog_7_method_2_code
def yX5_become : MethodName := ⟨RX5, "become", "(LFasterToBeLater$World;)V"⟩
abbrev cX5_hasCircle : ByteArray := prog_7_method_3_code
def yX5_hasCircle : MethodName := ⟨RX5, "hasCircle", "(I)Z"⟩
abbrev cX5_hasCircleAbove : ByteArray := prog_7_method_4_code
def yX5_hasCircleAbove : MethodName := ⟨RX5, "hasCircleAbove", "(I)Z"⟩
abbrev cX5_hasCircleNext : ByteArray := prog_7_method_5_code
def yX5_hasCircleNext : MethodName := ⟨RX5, "hasCircleNext", "(II)Z"⟩
abbrev cX5_hasPlace : ByteArray := prog_7_method_6_code
def yX5_hasPlace : MethodName := ⟨RX5, "hasPlace", "(II)Z"⟩
abbrev cX5_hasShip : ByteArray := prog_7_method_7_code
def yX5_hasShip : MethodName := ⟨RX5, "hasShip", "(I)Z"⟩
abbrev cX5_hasPair : ByteArray := prog_7_method_8_code
def yX5_hasPair : MethodName := ⟨RX5, "hasPair", "(II)Z"⟩
abbrev cX5_isFull : ByteArray := prog_7_method_9_code
def yX5_isFull : MethodName := ⟨RX5, "isFull", "()Z"⟩
abbrev cX5_timeOf : ByteArray := prog_7_method_10_code
def yX5_timeOf : MethodName := ⟨RX5, "timeOf", "(I)I"⟩
abbrev cX5_next : ByteArray := prog_7_method_11_code
def yX5_next : MethodName := ⟨RX5, "next", "(II)I"⟩
abbrev cX5_addShip : ByteArray := prog_7_method_12_code
def yX5_addShip : MethodName := ⟨RX5, "addShip", "(IIII)I"⟩
abbrev cX5_shipsOn : ByteArray := prog_7_method_13_code
def yX5_shipsOn : MethodName := ⟨RX5, "shipsOn", "(I)I"⟩
abbrev cX5_busyShips : ByteArray := prog_7_method_14_code
def yX5_busyShips : MethodName := ⟨RX5, "busyShips", "()I"⟩
abbrev cX5_idleOn : ByteArray := prog_7_method_15_code
def yX5_idleOn : MethodName := ⟨RX5, "idleOn", "(I)I"⟩
abbrev cX5_allDrops : ByteArray := prog_7_method_16_code
def yX5_allDrops : MethodName := ⟨RX5, "allDrops", "()I"⟩
abbrev cX5_countMet : ByteArray := prog_7_method_17_code
def yX5_countMet : MethodName := ⟨RX5, "countMet", "(I)I"⟩
abbrev cX5_price : ByteArray := prog_7_method_18_code
def yX5_price : MethodName := ⟨RX5, "price", "(LFasterToBeLater$Vessel;II)I"⟩
abbrev cX5_crossing : ByteArray := prog_7_method_19_code
def yX5_crossing : MethodName := ⟨RX5, "crossing", "(I)I"⟩
abbrev cX5_landing : ByteArray := prog_7_method_20_code
def yX5_landing : MethodName := ⟨RX5, "landing", "(III)I"⟩
abbrev cX5_isAble : ByteArray := prog_7_method_21_code
def yX5_isAble : MethodName := ⟨RX5, "isAble", "(LFasterToBeLater$Vessel;I)Z"⟩
abbrev cX5_send : ByteArray := prog_7_method_22_code
def yX5_send : MethodName := ⟨RX5, "send", "(LFasterToBeLater$Vessel;I)V"⟩
abbrev cX5_drift : ByteArray := prog_7_method_23_code
def yX5_drift : MethodName := ⟨RX5, "drift", "(LFasterToBeLater$Vessel;)V"⟩
abbrev cX5_placeBehind : ByteArray := prog_7_method_24_code
def yX5_placeBehind : MethodName := ⟨RX5, "placeBehind", "(LFasterToBeLater$Vessel;I)I"⟩
abbrev cX5_fly : ByteArray := prog_7_method_25_code
def yX5_fly : MethodName := ⟨RX5, "fly", "(LFasterToBeLater$Vessel;J)Z"⟩
abbrev cX5_advance : ByteArray := prog_7_method_26_code
def yX5_advance : MethodName := ⟨RX5, "advance", "(I)I"⟩
abbrev cX5_pairsHit : ByteArray := prog_7_method_27_code
def yX5_pairsHit : MethodName := ⟨RX5, "pairsHit", "()I"⟩
abbrev cX5_isClashBehind : ByteArray := prog_7_method_28_code
def yX5_isClashBehind : MethodName := ⟨RX5, "isClashBehind", "(I)Z"⟩
abbrev cX5_spotOf : ByteArray := prog_7_method_29_code
def yX5_spotOf : MethodName := ⟨RX5, "spotOf", "(LFasterToBeLater$Vessel;)I"⟩
abbrev cX5_spotBehind : ByteArray := prog_7_method_30_code
def yX5_spotBehind : MethodName := ⟨RX5, "spotBehind", "(LFasterToBeLater$Vessel;I)I"⟩
abbrev cX5_draw : ByteArray := prog_7_method_31_code
def yX5_draw : MethodName := ⟨RX5, "draw", "(I)I"⟩
def RX6 : String := "FasterToBeLater"
def TX6 : u_T := fun k => match k with
  | 0 => ("FasterToBeLater", "present", "LFasterToBeLater$World;", true)
  | 1 => ("FasterToBeLater", "kept", "LFasterToBeLater$World;", true)
  | 2 => ("FasterToBeLater", "isKept", "Z", false)
  | 3 => ("FasterToBeLater", "tape", "LFasterToBeLater$Tape;", true)
  | 4 => ("FasterToBeLater", "shelves", "[LFasterToBeLater$Shelf;", true)
  | 5 => ("FasterToBeLater", "refusals", "[I", true)
  | 6 => ("FasterToBeLater", "flyer", "LFasterToBeLater$Vessel;", true)
  | 7 => ("FasterToBeLater", "drifter", "LFasterToBeLater$Vessel;", true)
  | 8 => ("FasterToBeLater", "planner", "LFasterToBeLater$Planner;", false)
  | _ => ("FasterToBeLater", "chase", "LFasterToBeLater$Chase;", false)
def tyX6 : Nat → FieldType := fun k => match k with
  | 0 => .object "FasterToBeLater$World"
  | 1 => .object "FasterToBeLater$World"
  | 2 => .boolean
  | 3 => .object "FasterToBeLater$Tape"
  | 4 => .array (.object "FasterToBeLater$Shelf")
  | 5 => .array .int
  | 6 => .object "FasterToBeLater$Vessel"
  | 7 => .object "FasterToBeLater$Vessel"
  | 8 => .object "FasterToBeLater$Planner"
  | _ => .object "FasterToBeLater$Chase"
theorem nmX6 : ∀ a, a < 10 → ∀ b, b < 10 → a ≠ b → (TX6 a).2.1 ≠ (TX6 b).2.1 := by decide +kernel
theorem tyX6_ok : ∀ k, k < 10 → parseFieldDescriptor (TX6 k).2.2.1 = some (tyX6 k) := by decide +kernel
abbrev cX6_init : ByteArray := prog_1_method_1_code
def yX6_init : MethodName := ⟨RX6, "<init>", "()V"⟩
abbrev cX6_row : ByteArray := prog_1_method_2_code
def yX6_row : MethodName := ⟨RX6, "row", "(III)I"⟩
abbrev cX6_set : ByteArray := prog_1_method_3_code
def yX6_set : MethodName := ⟨RX6, "set", "(IIJ)I"⟩
abbrev cX6_copy : ByteArray := prog_1_method_4_code
def yX6_copy : MethodName := ⟨RX6, "copy", "(IIIII)I"⟩
abbrev cX6_element : ByteArray := prog_1_method_5_code
def yX6_element : MethodName := ⟨RX6, "element", "(II)J"⟩
abbrev cX6_holds : ByteArray := prog_1_method_6_code
def yX6_holds : MethodName := ⟨RX6, "holds", "(I)I"⟩
abbrev cX6_show : ByteArray := prog_1_method_7_code
def yX6_show : MethodName := ⟨RX6, "show", "(II)I"⟩
abbrev cX6_says : ByteArray := prog_1_method_8_code
def yX6_says : MethodName := ⟨RX6, "says", "(II)I"⟩
abbrev cX6_circles : ByteArray := prog_1_method_9_code
def yX6_circles : MethodName := ⟨RX6, "circles", "(I)I"⟩
abbrev cX6_time : ByteArray := prog_1_method_10_code
def yX6_time : MethodName := ⟨RX6, "time", "(II)I"⟩
abbrev cX6_cost : ByteArray := prog_1_method_11_code
def yX6_cost : MethodName := ⟨RX6, "cost", "(II)I"⟩
abbrev cX6_ship : ByteArray := prog_1_method_12_code
def yX6_ship : MethodName := ⟨RX6, "ship", "(IIII)I"⟩
abbrev cX6_fill : ByteArray := prog_1_method_13_code
def yX6_fill : MethodName := ⟨RX6, "fill", "(II)I"⟩
abbrev cX6_feed : ByteArray := prog_1_method_14_code
def yX6_feed : MethodName := ⟨RX6, "feed", "(I)I"⟩
abbrev cX6_wipe : ByteArray := prog_1_method_15_code
def yX6_wipe : MethodName := ⟨RX6, "wipe", "()I"⟩
abbrev cX6_world : ByteArray := prog_1_method_16_code
def yX6_world : MethodName := ⟨RX6, "world", "()I"⟩
abbrev cX6_shipOf : ByteArray := prog_1_method_17_code
def yX6_shipOf : MethodName := ⟨RX6, "shipOf", "(II)I"⟩
abbrev cX6_circleOf : ByteArray := prog_1_method_18_code
def yX6_circleOf : MethodName := ⟨RX6, "circleOf", "(II)I"⟩
abbrev cX6_can : ByteArray := prog_1_method_19_code
def yX6_can : MethodName := ⟨RX6, "can", "(II)I"⟩
abbrev cX6_behind : ByteArray := prog_1_method_20_code
def yX6_behind : MethodName := ⟨RX6, "behind", "(III)I"⟩
abbrev cX6_meets : ByteArray := prog_1_method_21_code
def yX6_meets : MethodName := ⟨RX6, "meets", "(II)I"⟩
abbrev cX6_judge : ByteArray := prog_1_method_22_code
def yX6_judge : MethodName := ⟨RX6, "judge", "(III)I"⟩
abbrev cX6_flown : ByteArray := prog_1_method_23_code
def yX6_flown : MethodName := ⟨RX6, "flown", "(IIII)I"⟩
abbrev cX6_met : ByteArray := prog_1_method_24_code
def yX6_met : MethodName := ⟨RX6, "met", "(IIII)I"⟩
abbrev cX6_cheapest : ByteArray := prog_1_method_25_code
def yX6_cheapest : MethodName := ⟨RX6, "cheapest", "(III)I"⟩
abbrev cX6_soonest : ByteArray := prog_1_method_26_code
def yX6_soonest : MethodName := ⟨RX6, "soonest", "(II)I"⟩
abbrev cX6_way : ByteArray := prog_1_method_27_code
def yX6_way : MethodName := ⟨RX6, "way", "(III)I"⟩
abbrev cX6_round : ByteArray := prog_1_method_28_code
def yX6_round : MethodName := ⟨RX6, "round", "(III)I"⟩
abbrev cX6_home : ByteArray := prog_1_method_29_code
def yX6_home : MethodName := ⟨RX6, "home", "(II)I"⟩
abbrev cX6_again : ByteArray := prog_1_method_30_code
def yX6_again : MethodName := ⟨RX6, "again", "()J"⟩
abbrev cX6_pass : ByteArray := prog_1_method_31_code
def yX6_pass : MethodName := ⟨RX6, "pass", "(II)I"⟩
abbrev cX6_queue : ByteArray := prog_1_method_32_code
def yX6_queue : MethodName := ⟨RX6, "queue", "(II)I"⟩
abbrev cX6_fullest : ByteArray := prog_1_method_33_code
def yX6_fullest : MethodName := ⟨RX6, "fullest", "()I"⟩
abbrev cX6_clash : ByteArray := prog_1_method_34_code
def yX6_clash : MethodName := ⟨RX6, "clash", "(I)I"⟩
abbrev cX6_burnt : ByteArray := prog_1_method_35_code
def yX6_burnt : MethodName := ⟨RX6, "burnt", "(III)I"⟩
abbrev cX6_tag : ByteArray := prog_1_method_36_code
def yX6_tag : MethodName := ⟨RX6, "tag", "(III)I"⟩
abbrev cX6_step : ByteArray := prog_1_method_37_code
def yX6_step : MethodName := ⟨RX6, "step", "(I)I"⟩
abbrev cX6_change : ByteArray := prog_1_method_38_code
def yX6_change : MethodName := ⟨RX6, "change", "(II)I"⟩
abbrev cX6_hand : ByteArray := prog_1_method_39_code
def yX6_hand : MethodName := ⟨RX6, "hand", "(III)I"⟩
abbrev cX6_hurl : ByteArray := prog_1_method_40_code
def yX6_hurl : MethodName := ⟨RX6, "hurl", "(III)I"⟩
abbrev cX6_bolts : ByteArray := prog_1_method_41_code
def yX6_bolts : MethodName := ⟨RX6, "bolts", "(I)I"⟩
abbrev cX6_seed : ByteArray := prog_1_method_42_code
def yX6_seed : MethodName := ⟨RX6, "seed", "(I)I"⟩
abbrev cX6_image : ByteArray := prog_1_method_43_code
def yX6_image : MethodName := ⟨RX6, "image", "()I"⟩
abbrev cX6_back : ByteArray := prog_1_method_44_code
def yX6_back : MethodName := ⟨RX6, "back", "()I"⟩
abbrev cX6_status : ByteArray := prog_1_method_45_code
def yX6_status : MethodName := ⟨RX6, "status", "(I)I"⟩
abbrev cX6_refuse : ByteArray := prog_1_method_46_code
def yX6_refuse : MethodName := ⟨RX6, "refuse", "(I)I"⟩
abbrev cX6_refusalsOf : ByteArray := prog_1_method_47_code
def yX6_refusalsOf : MethodName := ⟨RX6, "refusalsOf", "(I)I"⟩
abbrev cX6_shelvesInUse : ByteArray := prog_1_method_48_code
def yX6_shelvesInUse : MethodName := ⟨RX6, "shelvesInUse", "()I"⟩
abbrev cX6_rowRefusal : ByteArray := prog_1_method_49_code
def yX6_rowRefusal : MethodName := ⟨RX6, "rowRefusal", "(IZI)I"⟩
abbrev cX6_saying : ByteArray := prog_1_method_50_code
def yX6_saying : MethodName := ⟨RX6, "saying", "(II)I"⟩
abbrev cX6_firstWrongCode : ByteArray := prog_1_method_51_code
def yX6_firstWrongCode : MethodName := ⟨RX6, "firstWrongCode", "(LFasterToBeLater$Shelf;II)I"⟩
abbrev cX6_firstMeeting : ByteArray := prog_1_method_52_code
def yX6_firstMeeting : MethodName := ⟨RX6, "firstMeeting", "(LFasterToBeLater$Shelf;III)I"⟩
abbrev cX6_queueAt : ByteArray := prog_1_method_53_code
def yX6_queueAt : MethodName := ⟨RX6, "queueAt", "(II)I"⟩
abbrev cX6_areSightings : ByteArray := prog_1_method_54_code
def yX6_areSightings : MethodName := ⟨RX6, "areSightings", "(LFasterToBeLater$Shelf;I)Z"⟩
abbrev cX6_isSetOfOthers : ByteArray := prog_1_method_55_code
def yX6_isSetOfOthers : MethodName := ⟨RX6, "isSetOfOthers", "(II)Z"⟩
abbrev cX6_isFlight : ByteArray := prog_1_method_56_code
def yX6_isFlight : MethodName := ⟨RX6, "isFlight", "(II)Z"⟩
abbrev cX6_thinking : ByteArray := prog_1_method_57_code
def yX6_thinking : MethodName := ⟨RX6, "thinking", "()LFasterToBeLater$Planner;"⟩
abbrev cX6_isShelf : ByteArray := prog_1_method_58_code
def yX6_isShelf : MethodName := ⟨RX6, "isShelf", "(I)Z"⟩
abbrev cX6_isKind : ByteArray := prog_1_method_59_code
def yX6_isKind : MethodName := ⟨RX6, "isKind", "(I)Z"⟩
abbrev cX6_isChange : ByteArray := prog_1_method_60_code
def yX6_isChange : MethodName := ⟨RX6, "isChange", "(I)Z"⟩
abbrev cX6_areDrops : ByteArray := prog_1_method_61_code
def yX6_areDrops : MethodName := ⟨RX6, "areDrops", "(I)Z"⟩
abbrev cX6_areSteps : ByteArray := prog_1_method_62_code
def yX6_areSteps : MethodName := ⟨RX6, "areSteps", "(I)Z"⟩
abbrev cX6_modulo : ByteArray := prog_1_method_63_code
def yX6_modulo : MethodName := ⟨RX6, "modulo", "(II)I"⟩
abbrev cX6_leastCommonMultiple : ByteArray := prog_1_method_64_code
def yX6_leastCommonMultiple : MethodName := ⟨RX6, "leastCommonMultiple", "(JI)J"⟩
def RX7 : String := "FasterToBeLaterModel"
def TX7 : u_T := fun k => match k with
  | 0 => ("FasterToBeLaterModel", "holding", "[I", true)
  | 1 => ("FasterToBeLaterModel", "rowLength", "[I", true)
  | 2 => ("FasterToBeLaterModel", "rowOf", "[J", true)
  | 3 => ("FasterToBeLaterModel", "circles", "I", false)
  | 4 => ("FasterToBeLaterModel", "time", "[I", true)
  | 5 => ("FasterToBeLaterModel", "cost", "[I", true)
  | 6 => ("FasterToBeLaterModel", "ships", "I", false)
  | 7 => ("FasterToBeLaterModel", "kind", "[I", true)
  | 8 => ("FasterToBeLaterModel", "circle", "[I", true)
  | 9 => ("FasterToBeLaterModel", "place", "[I", true)
  | 10 => ("FasterToBeLaterModel", "drops", "[I", true)
  | 11 => ("FasterToBeLaterModel", "busy", "[I", true)
  | 12 => ("FasterToBeLaterModel", "gone", "I", false)
  | 13 => ("FasterToBeLaterModel", "hits", "I", false)
  | 14 => ("FasterToBeLaterModel", "seed", "I", false)
  | 15 => ("FasterToBeLaterModel", "taped", "I", false)
  | 16 => ("FasterToBeLaterModel", "tape", "[I", true)
  | 17 => ("FasterToBeLaterModel", "at", "I", false)
  | 18 => ("FasterToBeLaterModel", "token", "I", false)
  | 19 => ("FasterToBeLaterModel", "sort", "I", false)
  | 20 => ("FasterToBeLaterModel", "value", "I", false)
  | 21 => ("FasterToBeLaterModel", "refusals", "[I", true)
  | 22 => ("FasterToBeLaterModel", "imaged", "Z", false)
  | 23 => ("FasterToBeLaterModel", "old", "[I", true)
  | 24 => ("FasterToBeLaterModel", "ahead", "[I", true)
  | 25 => ("FasterToBeLaterModel", "now", "[I", true)
  | 26 => ("FasterToBeLaterModel", "next", "[I", true)
  | 27 => ("FasterToBeLaterModel", "left", "[I", true)
  | 28 => ("FasterToBeLaterModel", "way", "[I", true)
  | _ => ("FasterToBeLaterModel", "met", "I", false)
def tyX7 : Nat → FieldType := fun k => match k with
  | 0 => .array .int
  | 1 => .array .int
  | 2 => .array .long
  | 3 => .int
  | 4 => .array .int
  | 5 => .array .int
  | 6 => .int
  | 7 => .array .int
  | 8 => .array .int
  | 9 => .array .int
  | 10 => .array .int
  | 11 => .array .int
  | 12 => .int
  | 13 => .int
  | 14 => .int
  | 15 => .int
  | 16 => .array .int
  | 17 => .int
  | 18 => .int
  | 19 => .int
  | 20 => .int
  | 21 => .array .int
  | 22 => .boolean
  | 23 => .array .int
  | 24 => .array .int
  | 25 => .array .int
  | 26 => .array .int
  | 27 => .array .int
  | 28 => .array .int
  | _ => .int
theorem nmX7 : ∀ a, a < 30 → ∀ b, b < 30 → a ≠ b → (TX7 a).2.1 ≠ (TX7 b).2.1 := by decide +kernel
theorem tyX7_ok : ∀ k, k < 30 → parseFieldDescriptor (TX7 k).2.2.1 = some (tyX7 k) := by decide +kernel
abbrev cX7_init : ByteArray := prog_9_method_1_code
def yX7_init : MethodName := ⟨RX7, "<init>", "()V"⟩
abbrev cX7_no : ByteArray := prog_9_method_2_code
def yX7_no : MethodName := ⟨RX7, "no", "(I)I"⟩
abbrev cX7_within : ByteArray := prog_9_method_3_code
def yX7_within : MethodName := ⟨RX7, "within", "(III)Z"⟩
abbrev cX7_has : ByteArray := prog_9_method_4_code
def yX7_has : MethodName := ⟨RX7, "has", "(II)Z"⟩
abbrev cX7_isShip : ByteArray := prog_9_method_5_code
def yX7_isShip : MethodName := ⟨RX7, "isShip", "(I)Z"⟩
abbrev cX7_areTwo : ByteArray := prog_9_method_6_code
def yX7_areTwo : MethodName := ⟨RX7, "areTwo", "(II)Z"⟩
abbrev cX7_isCircle : ByteArray := prog_9_method_7_code
def yX7_isCircle : MethodName := ⟨RX7, "isCircle", "(I)Z"⟩
abbrev cX7_isRow : ByteArray := prog_9_method_8_code
def yX7_isRow : MethodName := ⟨RX7, "isRow", "(I)Z"⟩
abbrev cX7_row : ByteArray := prog_9_method_9_code
def yX7_row : MethodName := ⟨RX7, "row", "(III)I"⟩
abbrev cX7_noRow : ByteArray := prog_9_method_10_code
def yX7_noRow : MethodName := ⟨RX7, "noRow", "(I)I"⟩
abbrev cX7_set : ByteArray := prog_9_method_11_code
def yX7_set : MethodName := ⟨RX7, "set", "(IIJ)I"⟩
abbrev cX7_copy : ByteArray := prog_9_method_12_code
def yX7_copy : MethodName := ⟨RX7, "copy", "(IIIII)I"⟩
abbrev cX7_element : ByteArray := prog_9_method_13_code
def yX7_element : MethodName := ⟨RX7, "element", "(II)J"⟩
abbrev cX7_holds : ByteArray := prog_9_method_14_code
def yX7_holds : MethodName := ⟨RX7, "holds", "(I)I"⟩
abbrev cX7_show : ByteArray := prog_9_method_15_code
def yX7_show : MethodName := ⟨RX7, "show", "(II)I"⟩
abbrev cX7_isUnder : ByteArray := prog_9_method_16_code
def yX7_isUnder : MethodName := ⟨RX7, "isUnder", "(II)Z"⟩
abbrev cX7_says : ByteArray := prog_9_method_17_code
def yX7_says : MethodName := ⟨RX7, "says", "(II)I"⟩
abbrev cX7_those : ByteArray := prog_9_method_18_code
def yX7_those : MethodName := ⟨RX7, "those", "(I)I"⟩
abbrev cX7_circles : ByteArray := prog_9_method_19_code
def yX7_circles : MethodName := ⟨RX7, "circles", "(I)I"⟩
abbrev cX7_time : ByteArray := prog_9_method_20_code
def yX7_time : MethodName := ⟨RX7, "time", "(II)I"⟩
abbrev cX7_cost : ByteArray := prog_9_method_21_code
def yX7_cost : MethodName := ⟨RX7, "cost", "(II)I"⟩
abbrev cX7_newShip : ByteArray := prog_9_method_22_code
def yX7_newShip : MethodName := ⟨RX7, "newShip", "(IIII)I"⟩
abbrev cX7_ship : ByteArray := prog_9_method_23_code
def yX7_ship : MethodName := ⟨RX7, "ship", "(IIII)I"⟩
abbrev cX7_fill : ByteArray := prog_9_method_24_code
def yX7_fill : MethodName := ⟨RX7, "fill", "(II)I"⟩
abbrev cX7_feed : ByteArray := prog_9_method_25_code
def yX7_feed : MethodName := ⟨RX7, "feed", "(I)I"⟩
abbrev cX7_wipe : ByteArray := prog_9_method_26_code
def yX7_wipe : MethodName := ⟨RX7, "wipe", "()I"⟩
abbrev cX7_isLetter : ByteArray := prog_9_method_27_code
def yX7_isLetter : MethodName := ⟨RX7, "isLetter", "(I)Z"⟩
abbrev cX7_isDigit : ByteArray := prog_9_method_28_code
def yX7_isDigit : MethodName := ⟨RX7, "isDigit", "(I)Z"⟩
abbrev cX7_next : ByteArray := prog_9_method_29_code
def yX7_next : MethodName := ⟨RX7, "next", "()V"⟩
abbrev cX7_isWord : ByteArray := prog_9_method_30_code
def yX7_isWord : MethodName := ⟨RX7, "isWord", "(Ljava/lang/String;)Z"⟩
abbrev cX7_number : ByteArray := prog_9_method_31_code
def yX7_number : MethodName := ⟨RX7, "number", "(II)Z"⟩
abbrev cX7_statement : ByteArray := prog_9_method_32_code
def yX7_statement : MethodName := ⟨RX7, "statement", "()Z"⟩
abbrev cX7_world : ByteArray := prog_9_method_33_code
def yX7_world : MethodName := ⟨RX7, "world", "()I"⟩
abbrev cX7_shipOf : ByteArray := prog_9_method_34_code
def yX7_shipOf : MethodName := ⟨RX7, "shipOf", "(II)I"⟩
abbrev cX7_circleOf : ByteArray := prog_9_method_35_code
def yX7_circleOf : MethodName := ⟨RX7, "circleOf", "(II)I"⟩
abbrev cX7_drift : ByteArray := prog_9_method_36_code
def yX7_drift : MethodName := ⟨RX7, "drift", "(I)V"⟩
abbrev cX7_meet : ByteArray := prog_9_method_37_code
def yX7_meet : MethodName := ⟨RX7, "meet", "(II)Z"⟩
abbrev cX7_price : ByteArray := prog_9_method_38_code
def yX7_price : MethodName := ⟨RX7, "price", "(II)I"⟩
abbrev cX7_halfOf : ByteArray := prog_9_method_39_code
def yX7_halfOf : MethodName := ⟨RX7, "halfOf", "(I)I"⟩
abbrev cX7_across : ByteArray := prog_9_method_40_code
def yX7_across : MethodName := ⟨RX7, "across", "(III)I"⟩
abbrev cX7_isWay : ByteArray := prog_9_method_41_code
def yX7_isWay : MethodName := ⟨RX7, "isWay", "(II)Z"⟩
abbrev cX7_priceOf : ByteArray := prog_9_method_42_code
def yX7_priceOf : MethodName := ⟨RX7, "priceOf", "(II)I"⟩
abbrev cX7_isCode : ByteArray := prog_9_method_43_code
def yX7_isCode : MethodName := ⟨RX7, "isCode", "(II)Z"⟩
abbrev cX7_moves : ByteArray := prog_9_method_44_code
def yX7_moves : MethodName := ⟨RX7, "moves", "(II)V"⟩
abbrev cX7_acts : ByteArray := prog_9_method_45_code
def yX7_acts : MethodName := ⟨RX7, "acts", "(II)V"⟩
abbrev cX7_can : ByteArray := prog_9_method_46_code
def yX7_can : MethodName := ⟨RX7, "can", "(II)I"⟩
abbrev cX7_behind : ByteArray := prog_9_method_47_code
def yX7_behind : MethodName := ⟨RX7, "behind", "(III)I"⟩
abbrev cX7_meets : ByteArray := prog_9_method_48_code
def yX7_meets : MethodName := ⟨RX7, "meets", "(II)I"⟩
abbrev cX7_noFlight : ByteArray := prog_9_method_49_code
def yX7_noFlight : MethodName := ⟨RX7, "noFlight", "(IIZ)I"⟩
abbrev cX7_fly : ByteArray := prog_9_method_50_code
def yX7_fly : MethodName := ⟨RX7, "fly", "(IIII)I"⟩
abbrev cX7_judge : ByteArray := prog_9_method_51_code
def yX7_judge : MethodName := ⟨RX7, "judge", "(III)I"⟩
abbrev cX7_flown : ByteArray := prog_9_method_52_code
def yX7_flown : MethodName := ⟨RX7, "flown", "(IIII)I"⟩
abbrev cX7_met : ByteArray := prog_9_method_53_code
def yX7_met : MethodName := ⟨RX7, "met", "(IIII)I"⟩
abbrev cX7_state : ByteArray := prog_9_method_54_code
def yX7_state : MethodName := ⟨RX7, "state", "(IIII)I"⟩
abbrev cX7_begin : ByteArray := prog_9_method_55_code
def yX7_begin : MethodName := ⟨RX7, "begin", "(II)V"⟩
abbrev cX7_better : ByteArray := prog_9_method_56_code
def yX7_better : MethodName := ⟨RX7, "better", "(IIIII)V"⟩
abbrev cX7_goOn : ByteArray := prog_9_method_57_code
def yX7_goOn : MethodName := ⟨RX7, "goOn", "(I)V"⟩
abbrev cX7_placeAt : ByteArray := prog_9_method_58_code
def yX7_placeAt : MethodName := ⟨RX7, "placeAt", "(II)I"⟩
abbrev cX7_least : ByteArray := prog_9_method_59_code
def yX7_least : MethodName := ⟨RX7, "least", "(IIIIZ)I"⟩
abbrev cX7_cheapest : ByteArray := prog_9_method_60_code
def yX7_cheapest : MethodName := ⟨RX7, "cheapest", "(III)I"⟩
abbrev cX7_soonest : ByteArray := prog_9_method_61_code
def yX7_soonest : MethodName := ⟨RX7, "soonest", "(II)I"⟩
abbrev cX7_leftAt : ByteArray := prog_9_method_62_code
def yX7_leftAt : MethodName := ⟨RX7, "leftAt", "(IIII)I"⟩
abbrev cX7_way : ByteArray := prog_9_method_63_code
def yX7_way : MethodName := ⟨RX7, "way", "(III)I"⟩
abbrev cX7_ahead : ByteArray := prog_9_method_64_code
def yX7_ahead : MethodName := ⟨RX7, "ahead", "(IIIIIIZ)I"⟩
abbrev cX7_round : ByteArray := prog_9_method_65_code
def yX7_round : MethodName := ⟨RX7, "round", "(III)I"⟩
abbrev cX7_home : ByteArray := prog_9_method_66_code
def yX7_home : MethodName := ⟨RX7, "home", "(II)I"⟩
abbrev cX7_again : ByteArray := prog_9_method_67_code
def yX7_again : MethodName := ⟨RX7, "again", "()J"⟩
abbrev cX7_pass : ByteArray := prog_9_method_68_code
def yX7_pass : MethodName := ⟨RX7, "pass", "(II)I"⟩
abbrev cX7_queue : ByteArray := prog_9_method_69_code
def yX7_queue : MethodName := ⟨RX7, "queue", "(II)I"⟩
abbrev cX7_fullest : ByteArray := prog_9_method_70_code
def yX7_fullest : MethodName := ⟨RX7, "fullest", "()I"⟩
abbrev cX7_clash : ByteArray := prog_9_method_71_code
def yX7_clash : MethodName := ⟨RX7, "clash", "(I)I"⟩
abbrev cX7_burnt : ByteArray := prog_9_method_72_code
def yX7_burnt : MethodName := ⟨RX7, "burnt", "(III)I"⟩
abbrev cX7_tags : ByteArray := prog_9_method_73_code
def yX7_tags : MethodName := ⟨RX7, "tags", "(III)Z"⟩
abbrev cX7_tag : ByteArray := prog_9_method_74_code
def yX7_tag : MethodName := ⟨RX7, "tag", "(III)I"⟩
abbrev cX7_steps : ByteArray := prog_9_method_75_code
def yX7_steps : MethodName := ⟨RX7, "steps", "(I)I"⟩
abbrev cX7_step : ByteArray := prog_9_method_76_code
def yX7_step : MethodName := ⟨RX7, "step", "(I)I"⟩
abbrev cX7_change : ByteArray := prog_9_method_77_code
def yX7_change : MethodName := ⟨RX7, "change", "(II)I"⟩
abbrev cX7_hand : ByteArray := prog_9_method_78_code
def yX7_hand : MethodName := ⟨RX7, "hand", "(III)I"⟩
abbrev cX7_hurl : ByteArray := prog_9_method_79_code
def yX7_hurl : MethodName := ⟨RX7, "hurl", "(III)I"⟩
abbrev cX7_draw : ByteArray := prog_9_method_80_code
def yX7_draw : MethodName := ⟨RX7, "draw", "(I)I"⟩
abbrev cX7_bolts : ByteArray := prog_9_method_81_code
def yX7_bolts : MethodName := ⟨RX7, "bolts", "(I)I"⟩
abbrev cX7_seed : ByteArray := prog_9_method_82_code
def yX7_seed : MethodName := ⟨RX7, "seed", "(I)I"⟩
abbrev cX7_keep : ByteArray := prog_9_method_83_code
def yX7_keep : MethodName := ⟨RX7, "keep", "([I)V"⟩
abbrev cX7_again_ : ByteArray := prog_9_method_84_code
def yX7_again_ : MethodName := ⟨RX7, "again", "([I)V"⟩
abbrev cX7_image : ByteArray := prog_9_method_85_code
def yX7_image : MethodName := ⟨RX7, "image", "()I"⟩
abbrev cX7_back : ByteArray := prog_9_method_86_code
def yX7_back : MethodName := ⟨RX7, "back", "()I"⟩
abbrev cX7_status : ByteArray := prog_9_method_87_code
def yX7_status : MethodName := ⟨RX7, "status", "(I)I"⟩
def RJx145de : String := "java/io/Serializable"
def TJx145de : u_T := fun k => match k with
  | _ => ("", "", "", false)
def tyJx145de : Nat → FieldType := fun k => match k with
  | _ => .int
theorem nmJx145de : ∀ a, a < 0 → ∀ b, b < 0 → a ≠ b → (TJx145de a).2.1 ≠ (TJx145de b).2.1 := by decide +kernel
theorem tyJx145de_ok : ∀ k, k < 0 → parseFieldDescriptor (TJx145de k).2.2.1 = some (tyJx145de k) := by decide +kernel
def RJx9f9b0 : String := "java/lang/CharSequence"
def TJx9f9b0 : u_T := fun k => match k with
  | _ => ("", "", "", false)
def tyJx9f9b0 : Nat → FieldType := fun k => match k with
  | _ => .int
theorem nmJx9f9b0 : ∀ a, a < 0 → ∀ b, b < 0 → a ≠ b → (TJx9f9b0 a).2.1 ≠ (TJx9f9b0 b).2.1 := by decide +kernel
theorem tyJx9f9b0_ok : ∀ k, k < 0 → parseFieldDescriptor (TJx9f9b0 k).2.2.1 = some (tyJx9f9b0 k) := by decide +kernel
def RJxb160c : String := "java/lang/Comparable"
def TJxb160c : u_T := fun k => match k with
  | _ => ("", "", "", false)
def tyJxb160c : Nat → FieldType := fun k => match k with
  | _ => .int
theorem nmJxb160c : ∀ a, a < 0 → ∀ b, b < 0 → a ≠ b → (TJxb160c a).2.1 ≠ (TJxb160c b).2.1 := by decide +kernel
theorem tyJxb160c_ok : ∀ k, k < 0 → parseFieldDescriptor (TJxb160c k).2.2.1 = some (tyJxb160c k) := by decide +kernel
def RJ6 : String := "java/lang/Integer"
def TJ6 : u_T := fun k => match k with
  | _ => ("", "", "", false)
def tyJ6 : Nat → FieldType := fun k => match k with
  | _ => .int
theorem nmJ6 : ∀ a, a < 0 → ∀ b, b < 0 → a ≠ b → (TJ6 a).2.1 ≠ (TJ6 b).2.1 := by decide +kernel
theorem tyJ6_ok : ∀ k, k < 0 → parseFieldDescriptor (TJ6 k).2.2.1 = some (tyJ6 k) := by decide +kernel
abbrev cJ6_bitCount_0f7a4 : ByteArray := prog_10_method_49_code
def yJ6_bitCount_0f7a4 : MethodName := ⟨RJ6, "bitCount", "(I)I"⟩
def RJ9 : String := "java/lang/Math"
def TJ9 : u_T := fun k => match k with
  | _ => ("", "", "", false)
def tyJ9 : Nat → FieldType := fun k => match k with
  | _ => .int
theorem nmJ9 : ∀ a, a < 0 → ∀ b, b < 0 → a ≠ b → (TJ9 a).2.1 ≠ (TJ9 b).2.1 := by decide +kernel
theorem tyJ9_ok : ∀ k, k < 0 → parseFieldDescriptor (TJ9 k).2.2.1 = some (tyJ9 k) := by decide +kernel
abbrev cJ9_abs_0f7a4 : ByteArray := prog_11_method_59_code
def yJ9_abs_0f7a4 : MethodName := ⟨RJ9, "abs", "(I)I"⟩
abbrev cJ9_max_7cf53 : ByteArray := prog_11_method_65_code
def yJ9_max_7cf53 : MethodName := ⟨RJ9, "max", "(II)I"⟩
abbrev cJ9_min_7cf53 : ByteArray := prog_11_method_69_code
def yJ9_min_7cf53 : MethodName := ⟨RJ9, "min", "(II)I"⟩
def RJ0 : String := "java/lang/String"
def TJ0 : u_T := fun k => match k with
  | _ => ("", "", "", false)
def tyJ0 : Nat → FieldType := fun k => match k with
  | _ => .int
theorem nmJ0 : ∀ a, a < 0 → ∀ b, b < 0 → a ≠ b → (TJ0 a).2.1 ≠ (TJ0 b).2.1 := by decide +kernel
theorem tyJ0_ok : ∀ k, k < 0 → parseFieldDescriptor (TJ0 k).2.2.1 = some (tyJ0 k) := by decide +kernel
abbrev cJ0_length_8abf5 : ByteArray := prog_12_method_54_code
def yJ0_length_8abf5 : MethodName := ⟨RJ0, "length", "()I"⟩
abbrev cJ0_charAt_5068e : ByteArray := prog_12_method_56_code
def yJ0_charAt_5068e : MethodName := ⟨RJ0, "charAt", "(I)C"⟩
abbrev cJ0_coder_7d493 : ByteArray := prog_12_method_152_code
def yJ0_coder_7d493 : MethodName := ⟨RJ0, "coder", "()B"⟩
abbrev cJ0_isLatin1_aae02 : ByteArray := prog_12_method_154_code
def yJ0_isLatin1_aae02 : MethodName := ⟨RJ0, "isLatin1", "()Z"⟩
abbrev cJ0_checkIndex_df160 : ByteArray := prog_12_method_155_code
def yJ0_checkIndex_df160 : MethodName := ⟨RJ0, "checkIndex", "(II)V"⟩
def RJ1 : String := "java/lang/StringLatin1"
def TJ1 : u_T := fun k => match k with
  | _ => ("", "", "", false)
def tyJ1 : Nat → FieldType := fun k => match k with
  | _ => .int
theorem nmJ1 : ∀ a, a < 0 → ∀ b, b < 0 → a ≠ b → (TJ1 a).2.1 ≠ (TJ1 b).2.1 := by decide +kernel
theorem tyJ1_ok : ∀ k, k < 0 → parseFieldDescriptor (TJ1 k).2.2.1 = some (tyJ1 k) := by decide +kernel
abbrev cJ1_charAt_3b067 : ByteArray := prog_13_method_2_code
def yJ1_charAt_3b067 : MethodName := ⟨RJ1, "charAt", "([BI)C"⟩
def RJ2 : String := "java/lang/StringUTF16"
def TJ2 : u_T := fun k => match k with
  | _ => ("", "", "", false)
def tyJ2 : Nat → FieldType := fun k => match k with
  | _ => .int
theorem nmJ2 : ∀ a, a < 0 → ∀ b, b < 0 → a ≠ b → (TJ2 a).2.1 ≠ (TJ2 b).2.1 := by decide +kernel
theorem tyJ2_ok : ∀ k, k < 0 → parseFieldDescriptor (TJ2 k).2.2.1 = some (tyJ2 k) := by decide +kernel
abbrev cJ2_getChar_3b067 : ByteArray := prog_14_method_5_code
def yJ2_getChar_3b067 : MethodName := ⟨RJ2, "getChar", "([BI)C"⟩
abbrev cJ2_length_9d52b : ByteArray := prog_14_method_6_code
def yJ2_length_9d52b : MethodName := ⟨RJ2, "length", "([B)I"⟩
abbrev cJ2_charAt_3b067 : ByteArray := prog_14_method_83_code
def yJ2_charAt_3b067 : MethodName := ⟨RJ2, "charAt", "([BI)C"⟩
abbrev cJ2_checkIndex_2214a : ByteArray := prog_14_method_91_code
def yJ2_checkIndex_2214a : MethodName := ⟨RJ2, "checkIndex", "(I[B)V"⟩
def RJ10 : String := "java/lang/System"
def TJ10 : u_T := fun k => match k with
  | _ => ("", "", "", false)
def tyJ10 : Nat → FieldType := fun k => match k with
  | _ => .int
theorem nmJ10 : ∀ a, a < 0 → ∀ b, b < 0 → a ≠ b → (TJ10 a).2.1 ≠ (TJ10 b).2.1 := by decide +kernel
theorem tyJ10_ok : ∀ k, k < 0 → parseFieldDescriptor (TJ10 k).2.2.1 = some (tyJ10 k) := by decide +kernel
def RJxfd54e : String := "java/lang/constant/Constable"
def TJxfd54e : u_T := fun k => match k with
  | _ => ("", "", "", false)
def tyJxfd54e : Nat → FieldType := fun k => match k with
  | _ => .int
theorem nmJxfd54e : ∀ a, a < 0 → ∀ b, b < 0 → a ≠ b → (TJxfd54e a).2.1 ≠ (TJxfd54e b).2.1 := by decide +kernel
theorem tyJxfd54e_ok : ∀ k, k < 0 → parseFieldDescriptor (TJxfd54e k).2.2.1 = some (tyJxfd54e k) := by decide +kernel
def RJx3cf43 : String := "java/lang/constant/ConstantDesc"
def TJx3cf43 : u_T := fun k => match k with
  | _ => ("", "", "", false)
def tyJx3cf43 : Nat → FieldType := fun k => match k with
  | _ => .int
theorem nmJx3cf43 : ∀ a, a < 0 → ∀ b, b < 0 → a ≠ b → (TJx3cf43 a).2.1 ≠ (TJx3cf43 b).2.1 := by decide +kernel
theorem tyJx3cf43_ok : ∀ k, k < 0 → parseFieldDescriptor (TJx3cf43 k).2.2.1 = some (tyJx3cf43 k) := by decide +kernel
def RJ7 : String := "java/util/Arrays"
def TJ7 : u_T := fun k => match k with
  | _ => ("", "", "", false)
def tyJ7 : Nat → FieldType := fun k => match k with
  | _ => .int
theorem nmJ7 : ∀ a, a < 0 → ∀ b, b < 0 → a ≠ b → (TJ7 a).2.1 ≠ (TJ7 b).2.1 := by decide +kernel
theorem tyJ7_ok : ∀ k, k < 0 → parseFieldDescriptor (TJ7 k).2.2.1 = some (tyJ7 k) := by decide +kernel
abbrev cJ7_fill_d0a16 : ByteArray := prog_16_method_101_code
def yJ7_fill_d0a16 : MethodName := ⟨RJ7, "fill", "([JJ)V"⟩
abbrev cJ7_fill_53178 : ByteArray := prog_16_method_103_code
def yJ7_fill_53178 : MethodName := ⟨RJ7, "fill", "([II)V"⟩
def RJ3 : String := "jdk/internal/util/Preconditions"
def TJ3 : u_T := fun k => match k with
  | _ => ("", "", "", false)
def tyJ3 : Nat → FieldType := fun k => match k with
  | _ => .int
theorem nmJ3 : ∀ a, a < 0 → ∀ b, b < 0 → a ≠ b → (TJ3 a).2.1 ≠ (TJ3 b).2.1 := by decide +kernel
theorem tyJ3_ok : ∀ k, k < 0 → parseFieldDescriptor (TJ3 k).2.2.1 = some (tyJ3 k) := by decide +kernel
abbrev cJ3_checkIndex_8e157 : ByteArray := prog_17_method_11_code
def yJ3_checkIndex_8e157 : MethodName := ⟨RJ3, "checkIndex", "(IILjava/util/function/BiFunction;)I"⟩
def RL : String := "FasterToBeLaterLaw"
abbrev cL_law : ByteArray := code
def yL_law : MethodName := ⟨RL, "law", "([I)Z"⟩
abbrev vwCl : List vw_C := [(RX0, TX0, 3), (RX1, TX1, 15), (RX2, TX2, 3), (RX3, TX3, 7), (RX4, TX4, 5), (RX5, TX5, 8), (RX6, TX6, 10), (RX7, TX7, 30)]
