/-! ===== whole ships: a ship's places as a row of five; what a ship does, as a function ===== -/
section K18
variable {ω : am_W} {W : Int}
def up (u : Nat → Int) (f : Nat) (x : Int) : Nat → Int := fun j => if j = f then x else u j
def setV (ω : am_W) (a : Nat) (u : Nat → Int) : am_W := (ω.1, fun a' k => if a' = a then u k else ω.2.1 a' k, ω.2.2)
def setM (ω : am_W) (i : Nat) (u : Nat → Int) : am_W := (ω.1, fun a k => if (59 ≤ a ∧ a ≤ 63) ∧ k = i then u (a - 59) else ω.2.1 a k, ω.2.2)
theorem up_s {u : Nat → Int} {f : Nat} {x : Int} : up u f x f = x := if_pos rfl
theorem up_o {u : Nat → Int} {f g : Nat} {x : Int} (h : g ≠ f) : up u f x g = u g := if_neg h
theorem put_setV {a k : Nat} {x : Int} : am_put ω a k x = setV ω a (up (am_get ω a) k x) := by
  refine Prod.ext rfl (Prod.ext (funext fun a' => funext fun k' => ?_) rfl)
  show (if a' = a ∧ k' = k then x else ω.2.1 a' k') = if a' = a then (if k' = k then x else ω.2.1 a k') else ω.2.1 a' k'
  by_cases g : a' = a
  · subst g
    by_cases g2 : k' = k
    · rw [if_pos ⟨rfl, g2⟩, if_pos rfl, if_pos g2]
    · rw [if_neg (fun q => g2 q.2), if_pos rfl, if_neg g2]
  · rw [if_neg (fun q => g q.1), if_neg g]
theorem setV_get {a : Nat} {u : Nat → Int} : am_get (setV ω a u) a = u := funext fun _ => if_pos rfl
theorem setV_o {a a' : Nat} {u : Nat → Int} (h : a' ≠ a) : am_get (setV ω a u) a' = am_get ω a' := funext fun _ => if_neg h
theorem setV_setV {a : Nat} {u u' : Nat → Int} : setV (setV ω a u) a u' = setV ω a u' := by
  refine Prod.ext rfl (Prod.ext (funext fun a' => funext fun k' => ?_) rfl)
  show (if a' = a then u' k' else if a' = a then u k' else ω.2.1 a' k') = if a' = a then u' k' else ω.2.1 a' k'
  by_cases g : a' = a
  · rw [if_pos g, if_pos g]
  · rw [if_neg g, if_neg g, if_neg g]
theorem put_set {a k : Nat} {u : Nat → Int} {x : Int} : am_put (setV ω a u) a k x = setV ω a (up u k x) := by
  rw [put_setV, setV_setV, setV_get]
theorem fk4 (j : Nat) : am_fk 4 j = 0 := match j with
  | 0 => rfl
  | 1 => rfl
  | 2 => rfl
  | 3 => rfl
  | 4 => rfl
  | _ + 5 => rfl
theorem setV_dc {v : Int} (hv : am_is ω v (4, 5) = true) {u : Nat → Int} : Dc ω (setV ω v.toNat u) := by
  refine ⟨rfl, rfl, fun a k q => if_neg (fun e => ?_)⟩
  rw [e, am_rp_at (is_sh hv).2, fk4] at q
  cases q
theorem setV_is {v : Int} {a : Nat} {u : Nat → Int} {q : Nat × Nat} : am_is (setV ω a u) v q = am_is ω v q := rfl
theorem setM_is {v : Int} {a : Nat} {u : Nat → Int} {q : Nat × Nat} : am_is (setM ω a u) v q = am_is ω v q := rfl
theorem setV_W (h : Bs ω) (hw : isW W) {v : Int} (hv : am_is ω v (4, 5) = true) {u : Nat → Int} : cn (setV ω v.toNat u) W = cn ω W ∧ ck (setV ω v.toNat u) W = ck ω W ∧ cT (setV ω v.toNat u) W = cT ω W ∧ cC (setV ω v.toNat u) W = cC ω W := by
  obtain ⟨n1, n2, n3⟩ := V_ne h hw hv
  unfold cn ck cT cC
  rw [setV_o (fun e => n1 e.symm), setV_o (fun e => n2 e.symm), setV_o (fun e => n3 e.symm)]
  exact ⟨rfl, rfl, rfl, rfl⟩
theorem setM_c {i : Nat} {u u' : Nat → Int} (h : ∀ f, f < 5 → u f = u' f) : setM ω i u = setM ω i u' := by
  refine Prod.ext rfl (Prod.ext (funext fun a => funext fun k => ?_) rfl)
  show (if (59 ≤ a ∧ a ≤ 63) ∧ k = i then u (a - 59) else ω.2.1 a k) = if (59 ≤ a ∧ a ≤ 63) ∧ k = i then u' (a - 59) else ω.2.1 a k
  by_cases g : (59 ≤ a ∧ a ≤ 63) ∧ k = i
  · rw [if_pos g, if_pos g, h _ (by omega)]
  · rw [if_neg g, if_neg g]
theorem put_setM {f i : Nat} (hf : f < 5) {x : Int} : am_put ω (59 + f) i x = setM ω i (up (mV ω i) f x) := by
  refine Prod.ext rfl (Prod.ext (funext fun a => funext fun k => ?_) rfl)
  show (if a = 59 + f ∧ k = i then x else ω.2.1 a k) = if (59 ≤ a ∧ a ≤ 63) ∧ k = i then (if a - 59 = f then x else ω.2.1 (59 + (a - 59)) i) else ω.2.1 a k
  by_cases g : (59 ≤ a ∧ a ≤ 63) ∧ k = i
  · rw [if_pos g]
    by_cases g2 : a - 59 = f
    · rw [if_pos g2, if_pos (by omega)]
    · rw [if_neg g2, if_neg (by omega), show 59 + (a - 59) = a by omega, g.2]
  · rw [if_neg g, if_neg (by omega)]
theorem setM_V {i f : Nat} (hf : f < 5) {u : Nat → Int} : mV (setM ω i u) i f = u f := by
  refine (if_pos ⟨by omega, rfl⟩).trans ?_
  rw [show 59 + f - 59 = f by omega]
theorem setM_Vo {i j f : Nat} (hj : j ≠ i) {u : Nat → Int} : mV (setM ω i u) j f = mV ω j f := if_neg (fun q => hj q.2)
theorem setM_o {i a k : Nat} {u : Nat → Int} (h : ¬ ((59 ≤ a ∧ a ≤ 63) ∧ k = i)) : am_get (setM ω i u) a k = am_get ω a k := if_neg h
theorem setM_setM {i : Nat} {u u' : Nat → Int} : setM (setM ω i u) i u' = setM ω i u' := by
  refine Prod.ext rfl (Prod.ext (funext fun a' => funext fun k' => ?_) rfl)
  show (if (59 ≤ a' ∧ a' ≤ 63) ∧ k' = i then u' (a' - 59) else if (59 ≤ a' ∧ a' ≤ 63) ∧ k' = i then u (a' - 59) else ω.2.1 a' k') = if (59 ≤ a' ∧ a' ≤ 63) ∧ k' = i then u' (a' - 59) else ω.2.1 a' k'
  by_cases g : (59 ≤ a' ∧ a' ≤ 63) ∧ k' = i
  · rw [if_pos g, if_pos g]
  · rw [if_neg g, if_neg g, if_neg g]
theorem put_setM2 {f i : Nat} (hf : f < 5) {u : Nat → Int} {x : Int} : am_put (setM ω i u) (59 + f) i x = setM ω i (up u f x) := by
  rw [put_setM hf, setM_setM]
  exact setM_c (fun g hg => by unfold up; rw [setM_V hg])
theorem setM_dc (h : Bs ω) {i : Nat} {u : Nat → Int} : Dc ω (setM ω i u) := by
  refine ⟨rfl, rfl, fun a k q => if_neg (fun e => ?_)⟩
  have s : ∀ a, 59 ≤ a → a ≤ 63 → sh_0[a]? = some (100, 6) := by
    intro a h1 h2
    have : a = 59 ∨ a = 60 ∨ a = 61 ∨ a = 62 ∨ a = 63 := by omega
    rcases this with rfl | rfl | rfl | rfl | rfl <;> rfl
  rw [am_rp_at (bs_sh h (s a e.1.1 e.1.2))] at q
  cases q
theorem setM_m {i : Nat} {u : Nat → Int} : mn (setM ω i u) = mn ω ∧ mk (setM ω i u) = mk ω ∧ mT (setM ω i u) = mT ω ∧ mC (setM ω i u) = mC ω := ⟨setM_o (by omega), setM_o (by omega), funext fun j => setM_o (by omega), funext fun j => setM_o (by omega)⟩
/-- times, costs as they must be -/
def Tok (T : Nat → Int) : Prop := ∀ j, j < 6 → 2 ≤ T j ∧ T j ≤ 20
def Cok (C : Nat → Int) : Prop := ∀ j, j < 5 → 1 ≤ C j ∧ C j ≤ 9
def drF (T : Nat → Int) (u : Nat → Int) : Nat → Int := if 0 < u 4 then up u 4 (u 4 - 1) else up u 2 ((u 2 + 1) % T (u 1).toNat)
def sendF (T u : Nat → Int) (d : Int) : Nat → Int := up (up (up u 4 (T (u 1).toNat / 2)) 2 (fL (u 2) (T (u 1).toNat) (T (nxt (u 1) d).toNat))) 1 (nxt (u 1) d)
def actF (n : Int) (C T u : Nat → Int) (d : Int) : Nat → Int := sendF T (up u 3 (u 3 - prF n C (u 0) (low (u 1) d))) d
noncomputable def flyF (n : Int) (C T u : Nat → Int) (d : Int) : Nat → Int := drF T (if d = 0 then u else actF n C T u d)
def codeF (n : Int) (C u : Nat → Int) (d : Int) : Prop := d = 0 ∨ ((d = 1 ∨ d = 2) ∧ canF n C u d)
section PURE
variable {n : Int} {T C u u' : Nat → Int} {d : Int}
theorem dr_b (h : 0 < u 4) : drF T u = up u 4 (u 4 - 1) := if_pos h
theorem dr_p (h : ¬ 0 < u 4) : drF T u = up u 2 ((u 2 + 1) % T (u 1).toNat) := if_neg h
theorem dr_O (hn : n ≤ 6) (hT : Tok T) (O : O_ship n T u) : O_ship n T (drF T u) := by
  obtain ⟨o0, o1, o2, o3, o4⟩ := O
  by_cases h : 0 < u 4
  · rw [dr_b h]
    exact ⟨o0, o1, o2, o3, by show 0 ≤ u 4 - 1 ∧ u 4 - 1 ≤ 10; omega⟩
  · rw [dr_p h]
    have t := hT (u 1).toNat (by omega)
    exact ⟨o0, o1, ⟨Int.emod_nonneg _ (by omega), Int.emod_lt_of_pos _ (by omega)⟩, o3, o4⟩
theorem fL_ok {p a b : Int} (hb : 2 ≤ b) : 0 ≤ fL p a b ∧ fL p a b < b := ⟨Int.emod_nonneg _ (by omega), Int.emod_lt_of_pos _ (by omega)⟩
theorem send_O (hn : n ≤ 6) (hT : Tok T) (O : O_ship n T u) (ht : 0 ≤ nxt (u 1) d ∧ nxt (u 1) d < n) : O_ship n T (sendF T u d) := by
  obtain ⟨o0, o1, o2, o3, o4⟩ := O
  have t := hT (u 1).toNat (by omega)
  have t2 := hT (nxt (u 1) d).toNat (by omega)
  exact ⟨o0, ht, fL_ok t2.1, o3, by show 0 ≤ T (u 1).toNat / 2 ∧ T (u 1).toNat / 2 ≤ 10; omega⟩
theorem can_low (h : canF n C u d) : 0 ≤ low (u 1) d ∧ low (u 1) d < n - 1 := by
  by_cases y : 0 ≤ low (u 1) d ∧ low (u 1) d < n - 1
  · exact y
  · exact absurd (prF_no y) h.2.2.1
theorem low_nxt (hd : d = 1 ∨ d = 2) {c : Int} (h : 0 ≤ low c d ∧ low c d < n - 1) : 0 ≤ nxt c d ∧ nxt c d < n := by
  unfold low at h
  unfold nxt
  rcases hd with rfl | rfl
  · rw [if_pos rfl] at h ⊢; omega
  · rw [if_neg (by omega)] at h ⊢; omega
theorem act_O (hn : n ≤ 6) (hT : Tok T) (hC : Cok C) (O : O_ship n T u) (hd : d = 1 ∨ d = 2) (hc : canF n C u d) : O_ship n T (actF n C T u d) := by
  obtain ⟨o0, o1, o2, o3, o4⟩ := id O
  obtain ⟨-, p2, p3⟩ := prF_ok hn hC (k := u 0) (can_low hc)
  have := hc.2.2.2
  refine send_O hn hT (u := up u 3 (u 3 - prF n C (u 0) (low (u 1) d))) ⟨o0, o1, o2, ?_, o4⟩ (by have z := low_nxt hd (can_low hc); exact z)
  show 0 ≤ u 3 - prF n C (u 0) (low (u 1) d) ∧ u 3 - prF n C (u 0) (low (u 1) d) ≤ 99
  omega
theorem fly_O (hn : n ≤ 6) (hT : Tok T) (hC : Cok C) (O : O_ship n T u) (hc : codeF n C u d) : O_ship n T (flyF n C T u d) := by
  unfold flyF
  rcases hc with rfl | ⟨hd, hc⟩
  · rw [if_pos rfl]; exact dr_O hn hT O
  · rw [if_neg (by omega)]; exact dr_O hn hT (act_O hn hT hC O hd hc)
end PURE
theorem c_drift (h : Bs ω) (hw : isW W) (h6 : cn ω W ≤ 6) (hT : Tok (cT ω W)) {v : Int} (hv : am_is ω v (4, 5) = true) (O : O_ship (cn ω W) (cT ω W) (am_get ω v.toNat)) : am_run (74, 0) 0 ([some (.inr (.inr W)), some (.inr (.inr v))], [], ω) = some (none, setV ω v.toNat (drF (cT ω W) (am_get ω v.toNat))) := by
  obtain ⟨o0, o1, o2, o3, o4⟩ := O
  have t := hT (am_get ω v.toNat 1).toNat (by omega)
  by_cases hb : 0 < am_get ω v.toNat 4
  · rw [c_drift_b h hw hv (by omega), dr_b hb, put_setV]
  · rw [c_drift_p h hw h6 hT hv o1 (by omega) (by omega), dr_p hb, put_setV]
theorem c_sendV (h : Bs ω) (hw : isW W) (h6 : cn ω W ≤ 6) (hT : Tok (cT ω W)) {v d : Int} (hv : am_is ω v (4, 5) = true) (O : O_ship (cn ω W) (cT ω W) (am_get ω v.toNat)) (ht : 0 ≤ nxt (am_get ω v.toNat 1) d ∧ nxt (am_get ω v.toNat 1) d < cn ω W) : am_run (73, 0) 0 ([some (.inr (.inr W)), some (.inr (.inr v)), some (.inl d), none], [], ω) = some (none, setV ω v.toNat (sendF (cT ω W) (am_get ω v.toNat) d)) := by
  obtain ⟨o0, o1, o2, o3, o4⟩ := O
  have t := hT (am_get ω v.toNat 1).toNat (by omega)
  rw [c_send h hw h6 hT hv o1 ht (by omega)]
  unfold sendS sendF
  rw [put_setV (k := 4), put_set, put_set]
theorem c_fly_n (h : Bs ω) (hw : isW W) (hn : 2 ≤ cn ω W ∧ cn ω W ≤ 6) (hC : Cok (cC ω W)) (hT : Tok (cT ω W)) {v d : Int} (hv : am_is ω v (4, 5) = true) (O : O_ship (cn ω W) (cT ω W) (am_get ω v.toNat)) (hc : ¬ codeF (cn ω W) (cC ω W) (am_get ω v.toNat) d) : am_run (76, 0) 0 ([some (.inr (.inr W)), some (.inr (.inr v)), some (.inr (.inl d)), none, none], [], ω) = some (some (.inl 0), ω) := by
  have e : ∀ x : Int, am_cmp d x = 0 ↔ d = x := fun x => by unfold am_cmp; by_cases a : d < x <;> by_cases b : d = x <;> simp [a, b] <;> omega
  have o1 := O.2.1
  have k : d = 1 ∨ d = 2 → am_run (76, 0) 14 ([some (.inr (.inr W)), some (.inr (.inr v)), some (.inr (.inl d)), none, none], [], ω) = some (some (.inl 0), ω) := fun q => by
    rw [pX5_fly_14 _ _ _ _ _ (w_is h hw), am_w_s (z := d) (by omega) (by omega), bi_v (c_isAble h hw hn hC hv (by omega) q), b01_neg (fun z => hc (Or.inr ⟨q, z⟩)), if_neg (by omega)]
  rw [pX5_fly_0 _ _ _ _ (w_is h hw)]
  simp only [e]
  by_cases g1 : d = 1
  · rw [if_pos g1, k (Or.inl g1)]
  · rw [if_neg g1]
    by_cases g2 : d = 2
    · rw [if_neg (fun z => z g2), k (Or.inr g2)]
    · rw [if_pos g2, if_neg (fun z => hc (Or.inl z))]
theorem c_fly_y (h : Bs ω) (hw : isW W) (hn : 2 ≤ cn ω W ∧ cn ω W ≤ 6) (hC : Cok (cC ω W)) (hT : Tok (cT ω W)) {v d : Int} (hv : am_is ω v (4, 5) = true) (O : O_ship (cn ω W) (cT ω W) (am_get ω v.toNat)) (hc : codeF (cn ω W) (cC ω W) (am_get ω v.toNat) d) : am_run (76, 0) 0 ([some (.inr (.inr W)), some (.inr (.inr v)), some (.inr (.inl d)), none, none], [], ω) = some (some (.inl 1), setV ω v.toNat (flyF (cn ω W) (cC ω W) (cT ω W) (am_get ω v.toNat) d)) := by
  have e : ∀ x : Int, am_cmp d x = 0 ↔ d = x := fun x => by unfold am_cmp; by_cases a : d < x <;> by_cases b : d = x <;> simp [a, b] <;> omega
  have o1 := O.2.1
  have o3 := O.2.2.2.1
  rw [pX5_fly_0 _ _ _ _ (w_is h hw)]
  simp only [e]
  unfold flyF
  rcases hc with rfl | ⟨q, hc⟩
  · rw [if_neg (by omega), if_pos (by omega), if_pos rfl, bv_v (c_drift h hw hn.2 hT hv O), if_pos rfl]
  · have k : am_run (76, 0) 14 ([some (.inr (.inr W)), some (.inr (.inr v)), some (.inr (.inl d)), none, none], [], ω) = some (some (.inl 1), setV ω v.toNat (drF (cT ω W) (actF (cn ω W) (cC ω W) (cT ω W) (am_get ω v.toNat) d))) := by
      have ap := c_price h hw hn hC hv (c := am_get ω v.toNat 1) (by omega) q
      obtain ⟨-, p2, p3⟩ := prF_ok hn.2 hC (k := am_get ω v.toNat 0) (can_low hc)
      have := hc.2.2.2
      rw [pX5_fly_14 _ _ _ _ _ (w_is h hw), am_w_s (z := d) (by omega) (by omega), bi_v (c_isAble h hw hn hC hv (by omega) q), b01_pos hc, if_pos (by omega), if_pos hv, if_pos (w_is h hw), bi_v ap, if_pos hv, am_w_s (by omega) (by omega), put_setV]
      have d1 := setV_dc hv (u := up (am_get ω v.toNat) 3 (am_get ω v.toNat 3 - prF (cn ω W) (cC ω W) (am_get ω v.toNat 0) (low (am_get ω v.toNat 1) d)))
      have b1 := h.dc d1
      obtain ⟨k1, k2, k3, k4⟩ := setV_W h hw hv (u := up (am_get ω v.toNat) 3 (am_get ω v.toNat 3 - prF (cn ω W) (cC ω W) (am_get ω v.toNat 0) (low (am_get ω v.toNat 1) d)))
      have O1 : O_ship (cn ω W) (cT ω W) (up (am_get ω v.toNat) 3 (am_get ω v.toNat 3 - prF (cn ω W) (cC ω W) (am_get ω v.toNat 0) (low (am_get ω v.toNat 1) d))) := ⟨O.1, O.2.1, O.2.2.1, by show 0 ≤ am_get ω v.toNat 3 - prF (cn ω W) (cC ω W) (am_get ω v.toNat 0) (low (am_get ω v.toNat 1) d) ∧ am_get ω v.toNat 3 - prF (cn ω W) (cC ω W) (am_get ω v.toNat 0) (low (am_get ω v.toNat 1) d) ≤ 99; omega, O.2.2.2.2⟩
      have s := c_sendV b1 hw (by rw [k1]; exact hn.2) (by rw [k3]; exact hT) (v := v) (d := d) hv (by rw [k1, k3, setV_get]; exact O1) (by rw [k1, setV_get]; have z := low_nxt q (can_low hc); exact z)
      rw [if_pos (w_is b1 hw), bv_v s, setV_get, setV_setV, k3]
      have d2 := setV_dc hv (u := sendF (cT ω W) (up (am_get ω v.toNat) 3 (am_get ω v.toNat 3 - prF (cn ω W) (cC ω W) (am_get ω v.toNat 0) (low (am_get ω v.toNat 1) d))) d)
      have b2 := h.dc d2
      obtain ⟨j1, j2, j3, j4⟩ := setV_W h hw hv (u := sendF (cT ω W) (up (am_get ω v.toNat) 3 (am_get ω v.toNat 3 - prF (cn ω W) (cC ω W) (am_get ω v.toNat 0) (low (am_get ω v.toNat 1) d))) d)
      have s2 := c_drift b2 hw (by rw [j1]; exact hn.2) (by rw [j3]; exact hT) (v := v) hv (by rw [j1, j3, setV_get]; exact act_O hn.2 hT hC O q hc)
      rw [if_pos (w_is b2 hw), bv_v s2, setV_get, setV_setV, j3]
      rfl
    have nz : ¬ d = 0 := by omega
    by_cases g1 : d = 1
    · rw [if_pos g1, k, if_neg nz]
    · rw [if_neg g1, if_neg (fun z => by omega), k, if_neg nz]
theorem m_driftM (h : Bs ω) (h6 : mn ω ≤ 6) (hT : Tok (mT ω)) {i : Nat} (hi : i < 6) (O : O_ship (mn ω) (mT ω) (mV ω i)) : am_run (182, 0) 0 ([some (.inr (.inr 53)), some (.inl ((i : Int)))], [], ω) = some (none, setM ω i (drF (mT ω) (mV ω i))) := by
  obtain ⟨o0, o1, o2, o3, o4⟩ := O
  have t := hT (mV ω i 1).toNat (by omega)
  by_cases hb : 0 < mV ω i 4
  · rw [m_drift_b h hi (by omega), dr_b hb]
    exact congrArg (fun x => some (none, x)) (put_setM (f := 4) (by omega))
  · rw [m_drift_p h h6 hT hi o1 (by omega) (by omega), dr_p hb]
    exact congrArg (fun x => some (none, x)) (put_setM (f := 2) (by omega))
theorem movS_M {i : Nat} {b p c : Int} {u : Nat → Int} : movS (setM ω i u) i b p c = setM ω i (up (up (up u 4 b) 2 p) 1 c) := by
  unfold movS
  rw [show (63 : Nat) = 59 + 4 from rfl, show (61 : Nat) = 59 + 2 from rfl, show (60 : Nat) = 59 + 1 from rfl, put_setM2 (by omega), put_setM2 (by omega), put_setM2 (by omega)]
theorem m_movesM (h : Bs ω) (hn : mn ω ≤ 6) (hT : Tok (mT ω)) {i : Nat} (hi : i < 6) {d : Int} (O : O_ship (mn ω) (mT ω) (mV ω i)) (ht : 0 ≤ nxt (mV ω i 1) d ∧ nxt (mV ω i 1) d < mn ω) : am_run (190, 0) 0 ([some (.inr (.inr 53)), some (.inl ((i : Int))), some (.inl d), none, none], [], ω) = some (none, setM ω i (sendF (mT ω) (mV ω i) d)) := by
  obtain ⟨o0, o1, o2, o3, o4⟩ := O
  have t := hT (mV ω i 1).toNat (by omega)
  rw [m_moves h hn hT hi o1 ht (by omega)]
  unfold movS sendF
  rw [show (63 : Nat) = 59 + 4 from rfl, show (61 : Nat) = 59 + 2 from rfl, show (60 : Nat) = 59 + 1 from rfl, put_setM (f := 4) (by omega), put_setM2 (by omega), put_setM2 (by omega)]
theorem m_actsM (h : Bs ω) (hn : 2 ≤ mn ω ∧ mn ω ≤ 6) (hT : Tok (mT ω)) (hC : Cok (mC ω)) {i : Nat} (hi : i < 6) {d : Int} (hd : d = 1 ∨ d = 2) (O : O_ship (mn ω) (mT ω) (mV ω i)) (hc : canF (mn ω) (mC ω) (mV ω i) d) : am_run (191, 0) 0 ([some (.inr (.inr 53)), some (.inl ((i : Int))), some (.inl d)], [], ω) = some (none, setM ω i (actF (mn ω) (mC ω) (mT ω) (mV ω i) d)) := by
  obtain ⟨o0, o1, o2, o3, o4⟩ := O
  have t := hT (mV ω i 1).toNat (by omega)
  rw [m_acts h hn hT hC hi hd o1 (can_low hc) (by omega) o3]
  rw [show am_put ω 62 i (mV ω i 3 - prF (mn ω) (mC ω) (mV ω i 0) (low (mV ω i 1) d)) = setM ω i (up (mV ω i) 3 (mV ω i 3 - prF (mn ω) (mC ω) (mV ω i 0) (low (mV ω i 1) d))) from put_setM (f := 3) (by omega), movS_M]
  rfl
end K18
