/-! ===== the abstract machine against the machine: worlds, values, frames ===== -/
/-- the numbers of a launch: classes and slots; the classes of int[], long[], Vessel[], Shelf[], int[][]; the script's address; the texts' addresses, and those of their bytes -/
abbrev am_G : Type := va_G × (ClassId × ClassId × ClassId × ClassId × ClassId) × Nat × (Nat → Nat) × (Nat → Nat)
def am_rf (AD : List Nat) (z : Int) : Option Nat := if 0 ≤ z then some (AD.getD z.toNat 0) else none
def am_mr (G : am_G) (AD : List Nat) (z : Int) : Value := if 0 ≤ z then .ref (AD.getD z.toNat 0) else if z = -1 then .null else if z = -2 then .ref G.2.2.1 else .ref (G.2.2.2.1 (-3 - z).toNat)
def am_mv (G : am_G) (AD : List Nat) : am_V → Value
  | .inl z => .int (Int32.ofInt z)
  | .inr (.inl z) => .long (Int64.ofInt z)
  | .inr (.inr z) => am_mr G AD z
def am_fv (AD : List Nat) (fk : Nat) (z : Int) : Value := if fk = 2 then va_rf (am_rf AD z) else .int (Int32.ofInt z)
def am_ca (G : am_G) (kd : Nat) : ClassId := match kd with
  | 100 => G.2.1.1
  | 101 => G.2.1.2.1
  | 102 => G.2.1.2.2.1
  | 103 => G.2.1.2.2.2.1
  | _ => G.2.1.2.2.2.2
def am_enc (G : am_G) (AD : List Nat) (q : Nat × Nat) (f : Nat → Int) : va_E :=
  if q.1 < 8 then .inr (q.1, (List.range q.2).map (fun j => am_fv AD (am_fk q.1 j) (f j)))
  else if q.1 = 100 then .inl (am_ca G 100, q.2, .inl (fun j => Int32.ofInt (f j)))
  else if q.1 = 101 then .inl (am_ca G 101, q.2, .inr (.inl (fun j => Int64.ofInt (f j))))
  else .inl (am_ca G q.1, q.2, .inr (.inr (.inr (.inr (fun j => am_rf AD (f j))))))
def am_ws (G : am_G) (AD : List Nat) (ω : am_W) : va_W := (List.range ω.1.length).map (fun i => (AD.getD i 0, am_enc G AD (ω.1.getD i (0, 0)) (ω.2.1 i)))
/-- what a place of a cell may hold, n cells being there -/
def am_okc (n kd j : Nat) (z : Int) : Prop := if kd < 8 then (if am_fk kd j = 2 then -1 ≤ z ∧ z < n else am_R32 z) else if kd = 100 then am_R32 z else if kd = 101 then am_R64 z else -1 ≤ z ∧ z < n
def am_oks (q : Nat × Nat) : Prop := (q.1 < 8 ∧ q.2 = am_nf q.1) ∨ (100 ≤ q.1 ∧ q.1 ≤ 104 ∧ q.2 < 2147483648)
def am_okw (ω : am_W) : Prop := (∀ (i : Nat) (q : Nat × Nat), ω.1[i]? = some q → am_oks q ∧ ∀ j : Nat, am_okc ω.1.length q.1 j (ω.2.1 i j)) ∧ ω.2.2.1 < 2147483648 ∧ ∀ j : Nat, am_R32 (ω.2.2.2 j)
def am_okv (n : Nat) : am_V → Prop
  | .inl z => am_R32 z
  | .inr (.inl z) => am_R64 z
  | .inr (.inr z) => -9 < z ∧ z < n
def am_Rl (G : am_G) (A : Nat → Prop) (AD : List Nat) (ω : am_W) (H : Heap) : Prop := AD.length = ω.1.length ∧ am_okw ω ∧ va_P G.1 vwCl (am_ws G AD ω) H ∧ va_D A (am_ws G AD ω)
/-- the frame's places -/
def am_Fr (G : am_G) (AD : List Nat) (nL : Nat) (L : am_L) (ls : Array Slot) : Prop := L.length = nL ∧ ls.size = nL ∧ lv_wf ls ∧ ∀ (k : Nat) (v : am_V), L[k]? = some (some v) → ls[k]? = some (.val (am_mv G AD v))
def am_okL (n : Nat) (L : am_L) : Prop := ∀ (k : Nat) (v : am_V), L[k]? = some (some v) → am_okv n v
def am_okS (n : Nat) (S : List am_V) : Prop := ∀ v ∈ S, am_okv n v
-- rows on worlds
theorem am_ws_len (G : am_G) (AD : List Nat) (ω : am_W) : (am_ws G AD ω).length = ω.1.length := by simp [am_ws]
theorem am_ws_at {G : am_G} {AD : List Nat} {ω : am_W} {i : Nat} {q : Nat × Nat} (h : ω.1[i]? = some q) : (am_ws G AD ω)[i]? = some (AD.getD i 0, am_enc G AD q (ω.2.1 i)) := by
  have hl := (List.getElem?_eq_some_iff.mp h).1
  unfold am_ws
  rw [List.getElem?_map, List.getElem?_range hl]
  simp [h]
theorem am_ws_out {G : am_G} {AD : List Nat} {ω : am_W} {i : Nat} (h : ω.1[i]? = none) : (am_ws G AD ω)[i]? = none := by
  rw [List.getElem?_eq_none_iff] at h ⊢
  rw [am_ws_len]
  exact h
theorem am_ws_mem {G : am_G} {AD : List Nat} {ω : am_W} {i : Nat} {x : Nat × va_E} (h : (am_ws G AD ω)[i]? = some x) : ∃ q, ω.1[i]? = some q ∧ x = (AD.getD i 0, am_enc G AD q (ω.2.1 i)) := by
  cases hq : ω.1[i]? with
  | none => rw [am_ws_out hq] at h; cases h
  | some q =>
    rw [am_ws_at hq] at h
    exact ⟨q, rfl, (Option.some.inj h).symm⟩
/-- a world whose cell a holds something else -/
theorem am_ws_set {G : am_G} {AD : List Nat} {ω : am_W} {a : Nat} {q : Nat × Nat} {g : Nat → Nat → Int} {E : va_E} (h : ω.1[a]? = some q) (hE : E = am_enc G AD q (g a)) (hg : ∀ i, i ≠ a → g i = ω.2.1 i) : (am_ws G AD ω).set a (AD.getD a 0, E) = am_ws G AD (ω.1, g, ω.2.2) := by
  have hl := (List.getElem?_eq_some_iff.mp h).1
  apply List.ext_getElem?
  intro i
  by_cases hi : i = a
  · subst hi
    rw [List.getElem?_set_self (by rw [am_ws_len]; exact hl), am_ws_at (ω := (ω.1, g, ω.2.2)) h, hE]
  · rw [List.getElem?_set_ne (fun e => hi e.symm)]
    cases hq : ω.1[i]? with
    | none => rw [am_ws_out hq, am_ws_out (ω := (ω.1, g, ω.2.2)) hq]
    | some q' => rw [am_ws_at hq, am_ws_at (ω := (ω.1, g, ω.2.2)) hq]; show _ = some (_, am_enc G AD q' (g i)); rw [hg i hi]
theorem am_rf_ext {AD : List Nat} (X : List Nat) {z : Int} (h : z < AD.length) : am_rf (AD ++ X) z = am_rf AD z := by
  unfold am_rf
  by_cases h0 : 0 ≤ z
  · rw [if_pos h0, if_pos h0]
    simp only [List.getD_eq_getElem?_getD]
    rw [List.getElem?_append_left (by omega)]
  · rw [if_neg h0, if_neg h0]
theorem am_enc_ext {G : am_G} {AD : List Nat} (X : List Nat) {n : Nat} {q : Nat × Nat} {f : Nat → Int} (hn : n = AD.length) (h : ∀ j, am_okc n q.1 j (f j)) : am_enc G (AD ++ X) q f = am_enc G AD q f := by
  unfold am_enc
  by_cases h1 : q.1 < 8
  · rw [if_pos h1, if_pos h1]
    congr 2
    apply List.map_congr_left
    intro j _
    have hj := h j
    unfold am_okc at hj
    rw [if_pos h1] at hj
    unfold am_fv
    by_cases h2 : am_fk q.1 j = 2
    · rw [if_pos h2] at hj
      rw [if_pos h2, if_pos h2, am_rf_ext X (by omega)]
    · rw [if_neg h2, if_neg h2]
  · rw [if_neg h1, if_neg h1]
    by_cases h2 : q.1 = 100
    · rw [if_pos h2, if_pos h2]
    · rw [if_neg h2, if_neg h2]
      by_cases h3 : q.1 = 101
      · rw [if_pos h3, if_pos h3]
      · rw [if_neg h3, if_neg h3]
        have e : (fun j => am_rf (AD ++ X) (f j)) = (fun j => am_rf AD (f j)) := by
          funext j
          have hj := h j
          unfold am_okc at hj
          rw [if_neg h1, if_neg h2, if_neg h3] at hj
          exact am_rf_ext X (by omega)
        rw [e]
theorem am_mv_ext {G : am_G} {AD : List Nat} (X : List Nat) {v : am_V} {n : Nat} (hn : n = AD.length) (h : am_okv n v) : am_mv G (AD ++ X) v = am_mv G AD v := by
  rcases v with z | z | z
  · rfl
  · rfl
  · have h : -9 < z ∧ z < n := h
    show am_mr _ _ _ = am_mr _ _ _
    unfold am_mr
    by_cases h0 : 0 ≤ z
    · rw [if_pos h0, if_pos h0]
      simp only [List.getD_eq_getElem?_getD]
      rw [List.getElem?_append_left (by omega)]
    · rw [if_neg h0, if_neg h0]
theorem am_okv_up {n k : Nat} {v : am_V} (h : am_okv n v) (hk : n ≤ k) : am_okv k v := by
  rcases v with z | z | z
  · exact h
  · exact h
  · have h : -9 < z ∧ z < n := h
    show -9 < z ∧ z < k
    omega
theorem am_okc_up {n k kd j : Nat} {z : Int} (h : am_okc n kd j z) (hk : n ≤ k) : am_okc k kd j z := by
  unfold am_okc at h ⊢
  split
  · rename_i h1
    rw [if_pos h1] at h
    split
    · rename_i h2
      rw [if_pos h2] at h
      omega
    · rename_i h2
      rw [if_neg h2] at h
      exact h
  · rename_i h1
    rw [if_neg h1] at h
    split
    · rename_i h2
      rw [if_pos h2] at h
      exact h
    · rename_i h2
      rw [if_neg h2] at h
      split
      · rename_i h3
        rw [if_pos h3] at h
        exact h
      · rename_i h3
        rw [if_neg h3] at h
        omega
theorem am_map_ext {G : am_G} {AD : List Nat} (X : List Nat) {S : List am_V} {n : Nat} (hn : n = AD.length) (h : am_okS n S) : S.map (am_mv G (AD ++ X)) = S.map (am_mv G AD) := List.map_congr_left (fun v hv => am_mv_ext X hn (h v hv))
theorem am_Fr_ext {G : am_G} {AD : List Nat} (X : List Nat) {nL n : Nat} {L : am_L} {ls : Array Slot} (hn : n = AD.length) (h : am_Fr G AD nL L ls) (hk : am_okL n L) : am_Fr G (AD ++ X) nL L ls := ⟨h.1, h.2.1, h.2.2.1, fun k v hv => by rw [am_mv_ext X hn (hk k v hv)]; exact h.2.2.2 k v hv⟩
theorem am_okS_up {n k : Nat} {S : List am_V} (h : am_okS n S) (hk : n ≤ k) : am_okS k S := fun v hv => am_okv_up (h v hv) hk
theorem am_okL_up {n k : Nat} {L : am_L} (h : am_okL n L) (hk : n ≤ k) : am_okL k L := fun i v hv => am_okv_up (h i v hv) hk
theorem am_okS_c {n : Nat} {v : am_V} {S : List am_V} (h1 : am_okv n v) (h2 : am_okS n S) : am_okS n (v :: S) := fun w hw => by
  rcases List.mem_cons.mp hw with rfl | hw
  · exact h1
  · exact h2 w hw
theorem am_okS_h {n : Nat} {v : am_V} {S : List am_V} (h : am_okS n (v :: S)) : am_okv n v := h v List.mem_cons_self
theorem am_okS_t {n : Nat} {v : am_V} {S : List am_V} (h : am_okS n (v :: S)) : am_okS n S := fun w hw => h w (List.mem_cons_of_mem _ hw)
/-- one more cell -/
theorem am_ws_new {G : am_G} {AD : List Nat} {ω : am_W} {x : Nat} {q : Nat × Nat} {d : Nat → Int} (hn : AD.length = ω.1.length) (hw : am_okw ω) {E : va_E} (hE : E = am_enc G (AD ++ [x]) q d) : am_ws G AD ω ++ [(x, E)] = am_ws G (AD ++ [x]) (am_new ω q d) := by
  apply List.ext_getElem?
  intro i
  by_cases h1 : i < ω.1.length
  · rw [List.getElem?_append_left (by rw [am_ws_len]; exact h1)]
    have hq : ω.1[i]? = some ω.1[i] := List.getElem?_eq_getElem h1
    have hq2 : (am_new ω q d).1[i]? = some ω.1[i] := by
      show (ω.1 ++ [q])[i]? = _
      rw [List.getElem?_append_left h1]; exact hq
    rw [am_ws_at hq, am_ws_at hq2]
    have e1 : (AD ++ [x]).getD i 0 = AD.getD i 0 := by
      simp only [List.getD_eq_getElem?_getD]
      rw [List.getElem?_append_left (by omega)]
    have e2 : (am_new ω q d).2.1 i = ω.2.1 i := by
      funext k
      show (if i = ω.1.length then d k else ω.2.1 i k) = _
      rw [if_neg (by omega)]
    rw [e1, e2, am_enc_ext [x] hn.symm ((hw.1 i _ hq).2)]
  · by_cases h2 : i = ω.1.length
    · subst h2
      have e0 : (am_ws G AD ω ++ [(x, E)])[ω.1.length]? = some (x, E) := by
        rw [List.getElem?_append_right (by rw [am_ws_len]; exact Nat.le_refl _), am_ws_len, Nat.sub_self]
        rfl
      have hq2 : (am_new ω q d).1[ω.1.length]? = some q := by
        show (ω.1 ++ [q])[ω.1.length]? = _
        simp
      rw [e0, am_ws_at hq2]
      have e1 : (AD ++ [x]).getD ω.1.length 0 = x := by
        rw [← hn]
        simp
      have e2 : (am_new ω q d).2.1 ω.1.length = d := by
        funext k
        show (if ω.1.length = ω.1.length then d k else _) = _
        rw [if_pos rfl]
      rw [e1, e2, hE]
    · rw [List.getElem?_eq_none (by simp [am_ws_len]; omega), List.getElem?_eq_none (by rw [am_ws_len]; show (ω.1 ++ [q]).length ≤ i; simp; omega)]
theorem am_okw_put {ω : am_W} {a k : Nat} {v : Int} (hw : am_okw ω) (h : ∀ q, ω.1[a]? = some q → am_okc ω.1.length q.1 k v) : am_okw (am_put ω a k v) := by
  refine ⟨fun i q hq => ?_, hw.2⟩
  obtain ⟨h1, h2⟩ := hw.1 i q hq
  refine ⟨h1, fun j => ?_⟩
  show am_okc ω.1.length q.1 j (if i = a ∧ j = k then v else ω.2.1 i j)
  by_cases e : i = a ∧ j = k
  · rw [if_pos e]
    obtain ⟨rfl, rfl⟩ := e
    exact h q hq
  · rw [if_neg e]
    exact h2 j
theorem am_okw_new {ω : am_W} {q : Nat × Nat} {d : Nat → Int} (hw : am_okw ω) (hq : am_oks q) (h : ∀ j, am_okc (ω.1.length + 1) q.1 j (d j)) : am_okw (am_new ω q d) := by
  have hl : (am_new ω q d).1.length = ω.1.length + 1 := by
    show (ω.1 ++ [q]).length = _
    simp
  refine ⟨fun i x hx => ?_, hw.2⟩
  rw [hl]
  have hx : (ω.1 ++ [q])[i]? = some x := hx
  by_cases h1 : i < ω.1.length
  · rw [List.getElem?_append_left h1] at hx
    obtain ⟨g1, g2⟩ := hw.1 i x hx
    refine ⟨g1, fun j => ?_⟩
    show am_okc _ x.1 j (if i = ω.1.length then d j else ω.2.1 i j)
    rw [if_neg (by omega)]
    exact am_okc_up (g2 j) (Nat.le_succ _)
  · have h2 : i = ω.1.length := by
      have := (List.getElem?_eq_some_iff.mp hx).1
      simp at this
      omega
    subst h2
    have e : x = q := by simpa using hx.symm
    subst e
    refine ⟨hq, fun j => ?_⟩
    show am_okc _ x.1 j (if ω.1.length = ω.1.length then d j else _)
    rw [if_pos rfl]
    exact h j
theorem am_is_of {ω : am_W} {r : Int} {q : Nat × Nat} (h : am_is ω r q = true) : 0 ≤ r ∧ ω.1[r.toNat]? = some q := by
  unfold am_is at h
  simp only [Bool.and_eq_true, decide_eq_true_eq, beq_iff_eq] at h
  exact h
theorem am_ar_of {ω : am_W} {r : Int} {kd : Nat} (h : am_ar ω r kd = true) : 0 ≤ r ∧ ∃ n : Nat, ω.1[r.toNat]? = some (kd, n) ∧ am_len ω r = (n : Int) := by
  unfold am_ar at h
  simp only [Bool.and_eq_true, decide_eq_true_eq, beq_iff_eq] at h
  obtain ⟨h1, h2⟩ := h
  cases hq : ω.1[r.toNat]? with
  | none => rw [hq] at h2; cases h2
  | some q =>
    rw [hq] at h2
    have e : q.1 = kd := by simpa using h2
    refine ⟨h1, q.2, by rw [← e], ?_⟩
    unfold am_len
    rw [hq]
    rfl
theorem am_in_of {ω : am_W} {r i : Int} {kd : Nat} (h : am_in ω r kd i = true) : 0 ≤ r ∧ ∃ n : Nat, ω.1[r.toNat]? = some (kd, n) ∧ 0 ≤ i ∧ i < n := by
  unfold am_in at h
  simp only [Bool.and_eq_true, decide_eq_true_eq] at h
  obtain ⟨h1, n, h2, h3⟩ := am_ar_of h.1
  refine ⟨h1, n, h2, h.2.1, ?_⟩
  rw [← h3]
  exact h.2.2
