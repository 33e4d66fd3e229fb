/-! ===== what holds between two calls of the law: the first 72 cells ===== -/
def sh_W : List (Nat × Nat) := [(5, 8), (100, 6), (100, 5), (102, 6), (4, 5), (4, 5), (4, 5), (4, 5), (4, 5), (4, 5)]
def sh_0 : List (Nat × Nat) := [(6, 10), (5, 8), (100, 6), (100, 5), (102, 6), (4, 5), (4, 5), (4, 5), (4, 5), (4, 5), (4, 5), (5, 8), (100, 6), (100, 5), (102, 6), (4, 5), (4, 5), (4, 5), (4, 5), (4, 5), (4, 5), (3, 7), (100, 250), (5, 8), (100, 6), (100, 5), (102, 6), (4, 5), (4, 5), (4, 5), (4, 5), (4, 5), (4, 5), (103, 8), (100, 5), (4, 5), (4, 5), (2, 3), (101, 40), (2, 3), (101, 40), (2, 3), (101, 40), (2, 3), (101, 40), (2, 3), (101, 40), (2, 3), (101, 40), (2, 3), (101, 40), (2, 3), (101, 40), (7, 30), (100, 8), (100, 8), (101, 320), (100, 6), (100, 6), (100, 6), (100, 6), (100, 6), (100, 6), (100, 6), (100, 250), (100, 7), (100, 47), (100, 47), (100, 10560), (100, 10560), (100, 80520), (100, 60)]
def rf_0 : List (Nat × Nat × Int) := [(0, 0, 1), (0, 1, 11), (0, 3, 21), (0, 4, 33), (0, 5, 34), (0, 6, 35), (0, 7, 36), (1, 1, 2), (1, 2, 3), (1, 4, 4), (4, 0, 5), (4, 1, 6), (4, 2, 7), (4, 3, 8), (4, 4, 9), (4, 5, 10), (11, 1, 12), (11, 2, 13), (11, 4, 14), (14, 0, 15), (14, 1, 16), (14, 2, 17), (14, 3, 18), (14, 4, 19), (14, 5, 20), (23, 1, 24), (23, 2, 25), (23, 4, 26), (26, 0, 27), (26, 1, 28), (26, 2, 29), (26, 3, 30), (26, 4, 31), (26, 5, 32), (21, 0, 22), (21, 2, 23), (33, 0, 37), (33, 1, 39), (33, 2, 41), (33, 3, 43), (33, 4, 45), (33, 5, 47), (33, 6, 49), (33, 7, 51), (37, 2, 38), (39, 2, 40), (41, 2, 42), (43, 2, 44), (45, 2, 46), (47, 2, 48), (49, 2, 50), (51, 2, 52), (53, 0, 54), (53, 1, 55), (53, 2, 56), (53, 4, 57), (53, 5, 58), (53, 7, 59), (53, 8, 60), (53, 9, 61), (53, 10, 62), (53, 11, 63), (53, 16, 64), (53, 21, 65), (53, 23, 66), (53, 24, 67), (53, 25, 68), (53, 26, 69), (53, 27, 70), (53, 28, 71)]
/-- a place that holds a reference -/
def am_rp (sh : List (Nat × Nat)) (a k : Nat) : Bool := match sh[a]? with
  | some (kd, _) => (decide (kd < 8) && decide (am_fk kd k = 2)) || decide (102 ≤ kd)
  | none => false
def Bs (ω : am_W) : Prop := sh_0 <+: ω.1 ∧ ∀ q ∈ rf_0, ω.2.1 q.1 q.2.1 = q.2.2
theorem bs_sh {ω : am_W} (h : Bs ω) {a : Nat} {q : Nat × Nat} (e : sh_0[a]? = some q) : ω.1[a]? = some q := by
  obtain ⟨X, hX⟩ := h.1
  rw [← hX, List.getElem?_append_left (List.getElem?_eq_some_iff.mp e).1]
  exact e
theorem bs_rf {ω : am_W} (h : Bs ω) {a k : Nat} {v : Int} (e : (a, k, v) ∈ rf_0) : am_get ω a k = v := h.2 _ e
theorem bs_is {ω : am_W} (h : Bs ω) {a : Nat} {q : Nat × Nat} (e : sh_0[a]? = some q) : am_is ω (a : Int) q = true := by
  unfold am_is
  rw [Int.toNat_natCast, bs_sh h e]
  simp
theorem bs_ar {ω : am_W} (h : Bs ω) {a kd n : Nat} (e : sh_0[a]? = some (kd, n)) : am_ar ω (a : Int) kd = true := by
  unfold am_ar
  rw [Int.toNat_natCast, bs_sh h e]
  simp
theorem bs_len {ω : am_W} (h : Bs ω) {a kd n : Nat} (e : sh_0[a]? = some (kd, n)) : am_len ω (a : Int) = (n : Int) := by
  unfold am_len
  rw [Int.toNat_natCast, bs_sh h e]
  rfl
theorem bs_in {ω : am_W} (h : Bs ω) {a kd n : Nat} {i : Int} (e : sh_0[a]? = some (kd, n)) (h0 : 0 ≤ i) (h1 : i < (n : Int)) : am_in ω (a : Int) kd i = true := by
  unfold am_in
  rw [bs_ar h e, bs_len h e]
  simp [h0, h1]
theorem gp_same {ω : am_W} {a k : Nat} {v : Int} : am_get (am_put ω a k v) a k = v := if_pos ⟨rfl, rfl⟩
theorem gp_cell {ω : am_W} {a k a' k' : Nat} {v : Int} (h : a' ≠ a) : am_get (am_put ω a k v) a' k' = am_get ω a' k' := if_neg (fun q => h q.1)
theorem gp_place {ω : am_W} {a k a' k' : Nat} {v : Int} (h : k' ≠ k) : am_get (am_put ω a k v) a' k' = am_get ω a' k' := if_neg (fun q => h q.2)
/-- a world of which only numbers have changed -/
def Dc (ω ω' : am_W) : Prop := ω'.1 = ω.1 ∧ ω'.2.2 = ω.2.2 ∧ ∀ a k, am_rp ω.1 a k = true → am_get ω' a k = am_get ω a k
theorem Dc.rf (ω : am_W) : Dc ω ω := ⟨rfl, rfl, fun _ _ _ => rfl⟩
theorem Dc.tr {ω ω1 ω2 : am_W} (h : Dc ω ω1) (g : Dc ω1 ω2) : Dc ω ω2 := ⟨g.1.trans h.1, g.2.1.trans h.2.1, fun a k q => (g.2.2 a k (by rw [h.1]; exact q)).trans (h.2.2 a k q)⟩
theorem Dc.put {ω : am_W} {a k : Nat} {v : Int} (h : am_rp ω.1 a k = false) : Dc ω (am_put ω a k v) := ⟨rfl, rfl, fun a' k' q => if_neg (fun e => by rw [e.1, e.2, h] at q; cases q)⟩
theorem am_rp_at {sh : List (Nat × Nat)} {a k kd n : Nat} (h : sh[a]? = some (kd, n)) : am_rp sh a k = ((decide (kd < 8) && decide (am_fk kd k = 2)) || decide (102 ≤ kd)) := by
  unfold am_rp
  rw [h]
theorem rf_rp : ∀ q ∈ rf_0, am_rp sh_0 q.1 q.2.1 = true ∧ q.1 < sh_0.length := by decide +kernel
theorem bs_rp {ω : am_W} (h : Bs ω) {a k : Nat} (ha : a < sh_0.length) : am_rp ω.1 a k = am_rp sh_0 a k := by
  obtain ⟨X, hX⟩ := h.1
  unfold am_rp
  rw [← hX, List.getElem?_append_left ha]
theorem Bs.dc {ω ω' : am_W} (h : Bs ω) (d : Dc ω ω') : Bs ω' := by
  refine ⟨by rw [d.1]; exact h.1, fun q hq => ?_⟩
  obtain ⟨h1, h2⟩ := rf_rp q hq
  exact (d.2.2 _ _ (by rw [bs_rp h h2]; exact h1)).trans (h.2 q hq)
/-- a number is put into one of the first cells -/
theorem Bs.put {ω : am_W} (h : Bs ω) {a k kd n : Nat} {v : Int} (e : sh_0[a]? = some (kd, n)) (hr : ((decide (kd < 8) && decide (am_fk kd k = 2)) || decide (102 ≤ kd)) = false) : Bs (am_put ω a k v) := h.dc (Dc.put (by rw [am_rp_at (bs_sh h e)]; exact hr))
theorem am_w_id {z : Int} (h : am_R32 z) : am_w z = z := by
  unfold am_R32 at h
  unfold am_w
  rw [Int.bmod_def]
  omega
theorem am_w_s {z : Int} (h1 : -2147483648 ≤ z) (h2 : z < 2147483648) : am_w z = z := am_w_id ⟨h1, h2⟩
theorem i_0 {ω : am_W} (h : Bs ω) : am_is ω 0 (6, 10) = true := bs_is (a := 0) h rfl
theorem i_1 {ω : am_W} (h : Bs ω) : am_is ω 1 (5, 8) = true := bs_is (a := 1) h rfl
theorem i_2 {ω : am_W} (h : Bs ω) : am_is ω 2 (100, 6) = true := bs_is (a := 2) h rfl
theorem i_3 {ω : am_W} (h : Bs ω) : am_is ω 3 (100, 5) = true := bs_is (a := 3) h rfl
theorem i_4 {ω : am_W} (h : Bs ω) : am_is ω 4 (102, 6) = true := bs_is (a := 4) h rfl
theorem i_5 {ω : am_W} (h : Bs ω) : am_is ω 5 (4, 5) = true := bs_is (a := 5) h rfl
theorem i_6 {ω : am_W} (h : Bs ω) : am_is ω 6 (4, 5) = true := bs_is (a := 6) h rfl
theorem i_7 {ω : am_W} (h : Bs ω) : am_is ω 7 (4, 5) = true := bs_is (a := 7) h rfl
theorem i_8 {ω : am_W} (h : Bs ω) : am_is ω 8 (4, 5) = true := bs_is (a := 8) h rfl
theorem i_9 {ω : am_W} (h : Bs ω) : am_is ω 9 (4, 5) = true := bs_is (a := 9) h rfl
theorem i_10 {ω : am_W} (h : Bs ω) : am_is ω 10 (4, 5) = true := bs_is (a := 10) h rfl
theorem i_11 {ω : am_W} (h : Bs ω) : am_is ω 11 (5, 8) = true := bs_is (a := 11) h rfl
theorem i_12 {ω : am_W} (h : Bs ω) : am_is ω 12 (100, 6) = true := bs_is (a := 12) h rfl
theorem i_13 {ω : am_W} (h : Bs ω) : am_is ω 13 (100, 5) = true := bs_is (a := 13) h rfl
theorem i_14 {ω : am_W} (h : Bs ω) : am_is ω 14 (102, 6) = true := bs_is (a := 14) h rfl
theorem i_15 {ω : am_W} (h : Bs ω) : am_is ω 15 (4, 5) = true := bs_is (a := 15) h rfl
theorem i_16 {ω : am_W} (h : Bs ω) : am_is ω 16 (4, 5) = true := bs_is (a := 16) h rfl
theorem i_17 {ω : am_W} (h : Bs ω) : am_is ω 17 (4, 5) = true := bs_is (a := 17) h rfl
theorem i_18 {ω : am_W} (h : Bs ω) : am_is ω 18 (4, 5) = true := bs_is (a := 18) h rfl
theorem i_19 {ω : am_W} (h : Bs ω) : am_is ω 19 (4, 5) = true := bs_is (a := 19) h rfl
theorem i_20 {ω : am_W} (h : Bs ω) : am_is ω 20 (4, 5) = true := bs_is (a := 20) h rfl
theorem i_21 {ω : am_W} (h : Bs ω) : am_is ω 21 (3, 7) = true := bs_is (a := 21) h rfl
theorem i_22 {ω : am_W} (h : Bs ω) : am_is ω 22 (100, 250) = true := bs_is (a := 22) h rfl
theorem i_23 {ω : am_W} (h : Bs ω) : am_is ω 23 (5, 8) = true := bs_is (a := 23) h rfl
theorem i_24 {ω : am_W} (h : Bs ω) : am_is ω 24 (100, 6) = true := bs_is (a := 24) h rfl
theorem i_25 {ω : am_W} (h : Bs ω) : am_is ω 25 (100, 5) = true := bs_is (a := 25) h rfl
theorem i_26 {ω : am_W} (h : Bs ω) : am_is ω 26 (102, 6) = true := bs_is (a := 26) h rfl
theorem i_27 {ω : am_W} (h : Bs ω) : am_is ω 27 (4, 5) = true := bs_is (a := 27) h rfl
theorem i_28 {ω : am_W} (h : Bs ω) : am_is ω 28 (4, 5) = true := bs_is (a := 28) h rfl
theorem i_29 {ω : am_W} (h : Bs ω) : am_is ω 29 (4, 5) = true := bs_is (a := 29) h rfl
theorem i_30 {ω : am_W} (h : Bs ω) : am_is ω 30 (4, 5) = true := bs_is (a := 30) h rfl
theorem i_31 {ω : am_W} (h : Bs ω) : am_is ω 31 (4, 5) = true := bs_is (a := 31) h rfl
theorem i_32 {ω : am_W} (h : Bs ω) : am_is ω 32 (4, 5) = true := bs_is (a := 32) h rfl
theorem i_33 {ω : am_W} (h : Bs ω) : am_is ω 33 (103, 8) = true := bs_is (a := 33) h rfl
theorem i_34 {ω : am_W} (h : Bs ω) : am_is ω 34 (100, 5) = true := bs_is (a := 34) h rfl
theorem i_35 {ω : am_W} (h : Bs ω) : am_is ω 35 (4, 5) = true := bs_is (a := 35) h rfl
theorem i_36 {ω : am_W} (h : Bs ω) : am_is ω 36 (4, 5) = true := bs_is (a := 36) h rfl
theorem i_37 {ω : am_W} (h : Bs ω) : am_is ω 37 (2, 3) = true := bs_is (a := 37) h rfl
theorem i_38 {ω : am_W} (h : Bs ω) : am_is ω 38 (101, 40) = true := bs_is (a := 38) h rfl
theorem i_39 {ω : am_W} (h : Bs ω) : am_is ω 39 (2, 3) = true := bs_is (a := 39) h rfl
theorem i_40 {ω : am_W} (h : Bs ω) : am_is ω 40 (101, 40) = true := bs_is (a := 40) h rfl
theorem i_41 {ω : am_W} (h : Bs ω) : am_is ω 41 (2, 3) = true := bs_is (a := 41) h rfl
theorem i_42 {ω : am_W} (h : Bs ω) : am_is ω 42 (101, 40) = true := bs_is (a := 42) h rfl
theorem i_43 {ω : am_W} (h : Bs ω) : am_is ω 43 (2, 3) = true := bs_is (a := 43) h rfl
theorem i_44 {ω : am_W} (h : Bs ω) : am_is ω 44 (101, 40) = true := bs_is (a := 44) h rfl
theorem i_45 {ω : am_W} (h : Bs ω) : am_is ω 45 (2, 3) = true := bs_is (a := 45) h rfl
theorem i_46 {ω : am_W} (h : Bs ω) : am_is ω 46 (101, 40) = true := bs_is (a := 46) h rfl
theorem i_47 {ω : am_W} (h : Bs ω) : am_is ω 47 (2, 3) = true := bs_is (a := 47) h rfl
theorem i_48 {ω : am_W} (h : Bs ω) : am_is ω 48 (101, 40) = true := bs_is (a := 48) h rfl
theorem i_49 {ω : am_W} (h : Bs ω) : am_is ω 49 (2, 3) = true := bs_is (a := 49) h rfl
theorem i_50 {ω : am_W} (h : Bs ω) : am_is ω 50 (101, 40) = true := bs_is (a := 50) h rfl
theorem i_51 {ω : am_W} (h : Bs ω) : am_is ω 51 (2, 3) = true := bs_is (a := 51) h rfl
theorem i_52 {ω : am_W} (h : Bs ω) : am_is ω 52 (101, 40) = true := bs_is (a := 52) h rfl
theorem i_53 {ω : am_W} (h : Bs ω) : am_is ω 53 (7, 30) = true := bs_is (a := 53) h rfl
theorem i_54 {ω : am_W} (h : Bs ω) : am_is ω 54 (100, 8) = true := bs_is (a := 54) h rfl
theorem i_55 {ω : am_W} (h : Bs ω) : am_is ω 55 (100, 8) = true := bs_is (a := 55) h rfl
theorem i_56 {ω : am_W} (h : Bs ω) : am_is ω 56 (101, 320) = true := bs_is (a := 56) h rfl
theorem i_57 {ω : am_W} (h : Bs ω) : am_is ω 57 (100, 6) = true := bs_is (a := 57) h rfl
theorem i_58 {ω : am_W} (h : Bs ω) : am_is ω 58 (100, 6) = true := bs_is (a := 58) h rfl
theorem i_59 {ω : am_W} (h : Bs ω) : am_is ω 59 (100, 6) = true := bs_is (a := 59) h rfl
theorem i_60 {ω : am_W} (h : Bs ω) : am_is ω 60 (100, 6) = true := bs_is (a := 60) h rfl
theorem i_61 {ω : am_W} (h : Bs ω) : am_is ω 61 (100, 6) = true := bs_is (a := 61) h rfl
theorem i_62 {ω : am_W} (h : Bs ω) : am_is ω 62 (100, 6) = true := bs_is (a := 62) h rfl
theorem i_63 {ω : am_W} (h : Bs ω) : am_is ω 63 (100, 6) = true := bs_is (a := 63) h rfl
theorem i_64 {ω : am_W} (h : Bs ω) : am_is ω 64 (100, 250) = true := bs_is (a := 64) h rfl
theorem i_65 {ω : am_W} (h : Bs ω) : am_is ω 65 (100, 7) = true := bs_is (a := 65) h rfl
theorem i_66 {ω : am_W} (h : Bs ω) : am_is ω 66 (100, 47) = true := bs_is (a := 66) h rfl
theorem i_67 {ω : am_W} (h : Bs ω) : am_is ω 67 (100, 47) = true := bs_is (a := 67) h rfl
theorem i_68 {ω : am_W} (h : Bs ω) : am_is ω 68 (100, 10560) = true := bs_is (a := 68) h rfl
theorem i_69 {ω : am_W} (h : Bs ω) : am_is ω 69 (100, 10560) = true := bs_is (a := 69) h rfl
theorem i_70 {ω : am_W} (h : Bs ω) : am_is ω 70 (100, 80520) = true := bs_is (a := 70) h rfl
theorem i_71 {ω : am_W} (h : Bs ω) : am_is ω 71 (100, 60) = true := bs_is (a := 71) h rfl
theorem n_2 {ω : am_W} (h : Bs ω) {i : Int} (h0 : 0 ≤ i) (h1 : i < 6) : am_in ω 2 100 i = true := bs_in (a := 2) (n := 6) h rfl h0 h1
theorem n_3 {ω : am_W} (h : Bs ω) {i : Int} (h0 : 0 ≤ i) (h1 : i < 5) : am_in ω 3 100 i = true := bs_in (a := 3) (n := 5) h rfl h0 h1
theorem n_12 {ω : am_W} (h : Bs ω) {i : Int} (h0 : 0 ≤ i) (h1 : i < 6) : am_in ω 12 100 i = true := bs_in (a := 12) (n := 6) h rfl h0 h1
theorem n_13 {ω : am_W} (h : Bs ω) {i : Int} (h0 : 0 ≤ i) (h1 : i < 5) : am_in ω 13 100 i = true := bs_in (a := 13) (n := 5) h rfl h0 h1
theorem n_22 {ω : am_W} (h : Bs ω) {i : Int} (h0 : 0 ≤ i) (h1 : i < 250) : am_in ω 22 100 i = true := bs_in (a := 22) (n := 250) h rfl h0 h1
theorem n_24 {ω : am_W} (h : Bs ω) {i : Int} (h0 : 0 ≤ i) (h1 : i < 6) : am_in ω 24 100 i = true := bs_in (a := 24) (n := 6) h rfl h0 h1
theorem n_25 {ω : am_W} (h : Bs ω) {i : Int} (h0 : 0 ≤ i) (h1 : i < 5) : am_in ω 25 100 i = true := bs_in (a := 25) (n := 5) h rfl h0 h1
theorem n_34 {ω : am_W} (h : Bs ω) {i : Int} (h0 : 0 ≤ i) (h1 : i < 5) : am_in ω 34 100 i = true := bs_in (a := 34) (n := 5) h rfl h0 h1
theorem n_38 {ω : am_W} (h : Bs ω) {i : Int} (h0 : 0 ≤ i) (h1 : i < 40) : am_in ω 38 101 i = true := bs_in (a := 38) (n := 40) h rfl h0 h1
theorem n_40 {ω : am_W} (h : Bs ω) {i : Int} (h0 : 0 ≤ i) (h1 : i < 40) : am_in ω 40 101 i = true := bs_in (a := 40) (n := 40) h rfl h0 h1
theorem n_42 {ω : am_W} (h : Bs ω) {i : Int} (h0 : 0 ≤ i) (h1 : i < 40) : am_in ω 42 101 i = true := bs_in (a := 42) (n := 40) h rfl h0 h1
theorem n_44 {ω : am_W} (h : Bs ω) {i : Int} (h0 : 0 ≤ i) (h1 : i < 40) : am_in ω 44 101 i = true := bs_in (a := 44) (n := 40) h rfl h0 h1
theorem n_46 {ω : am_W} (h : Bs ω) {i : Int} (h0 : 0 ≤ i) (h1 : i < 40) : am_in ω 46 101 i = true := bs_in (a := 46) (n := 40) h rfl h0 h1
theorem n_48 {ω : am_W} (h : Bs ω) {i : Int} (h0 : 0 ≤ i) (h1 : i < 40) : am_in ω 48 101 i = true := bs_in (a := 48) (n := 40) h rfl h0 h1
theorem n_50 {ω : am_W} (h : Bs ω) {i : Int} (h0 : 0 ≤ i) (h1 : i < 40) : am_in ω 50 101 i = true := bs_in (a := 50) (n := 40) h rfl h0 h1
theorem n_52 {ω : am_W} (h : Bs ω) {i : Int} (h0 : 0 ≤ i) (h1 : i < 40) : am_in ω 52 101 i = true := bs_in (a := 52) (n := 40) h rfl h0 h1
theorem n_54 {ω : am_W} (h : Bs ω) {i : Int} (h0 : 0 ≤ i) (h1 : i < 8) : am_in ω 54 100 i = true := bs_in (a := 54) (n := 8) h rfl h0 h1
theorem n_55 {ω : am_W} (h : Bs ω) {i : Int} (h0 : 0 ≤ i) (h1 : i < 8) : am_in ω 55 100 i = true := bs_in (a := 55) (n := 8) h rfl h0 h1
theorem n_56 {ω : am_W} (h : Bs ω) {i : Int} (h0 : 0 ≤ i) (h1 : i < 320) : am_in ω 56 101 i = true := bs_in (a := 56) (n := 320) h rfl h0 h1
theorem n_57 {ω : am_W} (h : Bs ω) {i : Int} (h0 : 0 ≤ i) (h1 : i < 6) : am_in ω 57 100 i = true := bs_in (a := 57) (n := 6) h rfl h0 h1
theorem n_58 {ω : am_W} (h : Bs ω) {i : Int} (h0 : 0 ≤ i) (h1 : i < 6) : am_in ω 58 100 i = true := bs_in (a := 58) (n := 6) h rfl h0 h1
theorem n_59 {ω : am_W} (h : Bs ω) {i : Int} (h0 : 0 ≤ i) (h1 : i < 6) : am_in ω 59 100 i = true := bs_in (a := 59) (n := 6) h rfl h0 h1
theorem n_60 {ω : am_W} (h : Bs ω) {i : Int} (h0 : 0 ≤ i) (h1 : i < 6) : am_in ω 60 100 i = true := bs_in (a := 60) (n := 6) h rfl h0 h1
theorem n_61 {ω : am_W} (h : Bs ω) {i : Int} (h0 : 0 ≤ i) (h1 : i < 6) : am_in ω 61 100 i = true := bs_in (a := 61) (n := 6) h rfl h0 h1
theorem n_62 {ω : am_W} (h : Bs ω) {i : Int} (h0 : 0 ≤ i) (h1 : i < 6) : am_in ω 62 100 i = true := bs_in (a := 62) (n := 6) h rfl h0 h1
theorem n_63 {ω : am_W} (h : Bs ω) {i : Int} (h0 : 0 ≤ i) (h1 : i < 6) : am_in ω 63 100 i = true := bs_in (a := 63) (n := 6) h rfl h0 h1
theorem n_64 {ω : am_W} (h : Bs ω) {i : Int} (h0 : 0 ≤ i) (h1 : i < 250) : am_in ω 64 100 i = true := bs_in (a := 64) (n := 250) h rfl h0 h1
theorem n_65 {ω : am_W} (h : Bs ω) {i : Int} (h0 : 0 ≤ i) (h1 : i < 7) : am_in ω 65 100 i = true := bs_in (a := 65) (n := 7) h rfl h0 h1
theorem n_66 {ω : am_W} (h : Bs ω) {i : Int} (h0 : 0 ≤ i) (h1 : i < 47) : am_in ω 66 100 i = true := bs_in (a := 66) (n := 47) h rfl h0 h1
theorem n_67 {ω : am_W} (h : Bs ω) {i : Int} (h0 : 0 ≤ i) (h1 : i < 47) : am_in ω 67 100 i = true := bs_in (a := 67) (n := 47) h rfl h0 h1
theorem n_68 {ω : am_W} (h : Bs ω) {i : Int} (h0 : 0 ≤ i) (h1 : i < 10560) : am_in ω 68 100 i = true := bs_in (a := 68) (n := 10560) h rfl h0 h1
theorem n_69 {ω : am_W} (h : Bs ω) {i : Int} (h0 : 0 ≤ i) (h1 : i < 10560) : am_in ω 69 100 i = true := bs_in (a := 69) (n := 10560) h rfl h0 h1
theorem n_70 {ω : am_W} (h : Bs ω) {i : Int} (h0 : 0 ≤ i) (h1 : i < 80520) : am_in ω 70 100 i = true := bs_in (a := 70) (n := 80520) h rfl h0 h1
theorem n_71 {ω : am_W} (h : Bs ω) {i : Int} (h0 : 0 ≤ i) (h1 : i < 60) : am_in ω 71 100 i = true := bs_in (a := 71) (n := 60) h rfl h0 h1
theorem f_0_0 {ω : am_W} (h : Bs ω) : am_get ω 0 0 = 1 := bs_rf h (by decide)
theorem f_0_1 {ω : am_W} (h : Bs ω) : am_get ω 0 1 = 11 := bs_rf h (by decide)
theorem f_0_3 {ω : am_W} (h : Bs ω) : am_get ω 0 3 = 21 := bs_rf h (by decide)
theorem f_0_4 {ω : am_W} (h : Bs ω) : am_get ω 0 4 = 33 := bs_rf h (by decide)
theorem f_0_5 {ω : am_W} (h : Bs ω) : am_get ω 0 5 = 34 := bs_rf h (by decide)
theorem f_0_6 {ω : am_W} (h : Bs ω) : am_get ω 0 6 = 35 := bs_rf h (by decide)
theorem f_0_7 {ω : am_W} (h : Bs ω) : am_get ω 0 7 = 36 := bs_rf h (by decide)
theorem f_1_1 {ω : am_W} (h : Bs ω) : am_get ω 1 1 = 2 := bs_rf h (by decide)
theorem f_1_2 {ω : am_W} (h : Bs ω) : am_get ω 1 2 = 3 := bs_rf h (by decide)
theorem f_1_4 {ω : am_W} (h : Bs ω) : am_get ω 1 4 = 4 := bs_rf h (by decide)
theorem f_4_0 {ω : am_W} (h : Bs ω) : am_get ω 4 0 = 5 := bs_rf h (by decide)
theorem f_4_1 {ω : am_W} (h : Bs ω) : am_get ω 4 1 = 6 := bs_rf h (by decide)
theorem f_4_2 {ω : am_W} (h : Bs ω) : am_get ω 4 2 = 7 := bs_rf h (by decide)
theorem f_4_3 {ω : am_W} (h : Bs ω) : am_get ω 4 3 = 8 := bs_rf h (by decide)
theorem f_4_4 {ω : am_W} (h : Bs ω) : am_get ω 4 4 = 9 := bs_rf h (by decide)
theorem f_4_5 {ω : am_W} (h : Bs ω) : am_get ω 4 5 = 10 := bs_rf h (by decide)
theorem f_11_1 {ω : am_W} (h : Bs ω) : am_get ω 11 1 = 12 := bs_rf h (by decide)
theorem f_11_2 {ω : am_W} (h : Bs ω) : am_get ω 11 2 = 13 := bs_rf h (by decide)
theorem f_11_4 {ω : am_W} (h : Bs ω) : am_get ω 11 4 = 14 := bs_rf h (by decide)
theorem f_14_0 {ω : am_W} (h : Bs ω) : am_get ω 14 0 = 15 := bs_rf h (by decide)
theorem f_14_1 {ω : am_W} (h : Bs ω) : am_get ω 14 1 = 16 := bs_rf h (by decide)
theorem f_14_2 {ω : am_W} (h : Bs ω) : am_get ω 14 2 = 17 := bs_rf h (by decide)
theorem f_14_3 {ω : am_W} (h : Bs ω) : am_get ω 14 3 = 18 := bs_rf h (by decide)
theorem f_14_4 {ω : am_W} (h : Bs ω) : am_get ω 14 4 = 19 := bs_rf h (by decide)
theorem f_14_5 {ω : am_W} (h : Bs ω) : am_get ω 14 5 = 20 := bs_rf h (by decide)
theorem f_23_1 {ω : am_W} (h : Bs ω) : am_get ω 23 1 = 24 := bs_rf h (by decide)
theorem f_23_2 {ω : am_W} (h : Bs ω) : am_get ω 23 2 = 25 := bs_rf h (by decide)
theorem f_23_4 {ω : am_W} (h : Bs ω) : am_get ω 23 4 = 26 := bs_rf h (by decide)
theorem f_26_0 {ω : am_W} (h : Bs ω) : am_get ω 26 0 = 27 := bs_rf h (by decide)
theorem f_26_1 {ω : am_W} (h : Bs ω) : am_get ω 26 1 = 28 := bs_rf h (by decide)
theorem f_26_2 {ω : am_W} (h : Bs ω) : am_get ω 26 2 = 29 := bs_rf h (by decide)
theorem f_26_3 {ω : am_W} (h : Bs ω) : am_get ω 26 3 = 30 := bs_rf h (by decide)
theorem f_26_4 {ω : am_W} (h : Bs ω) : am_get ω 26 4 = 31 := bs_rf h (by decide)
theorem f_26_5 {ω : am_W} (h : Bs ω) : am_get ω 26 5 = 32 := bs_rf h (by decide)
theorem f_21_0 {ω : am_W} (h : Bs ω) : am_get ω 21 0 = 22 := bs_rf h (by decide)
theorem f_21_2 {ω : am_W} (h : Bs ω) : am_get ω 21 2 = 23 := bs_rf h (by decide)
theorem f_33_0 {ω : am_W} (h : Bs ω) : am_get ω 33 0 = 37 := bs_rf h (by decide)
theorem f_33_1 {ω : am_W} (h : Bs ω) : am_get ω 33 1 = 39 := bs_rf h (by decide)
theorem f_33_2 {ω : am_W} (h : Bs ω) : am_get ω 33 2 = 41 := bs_rf h (by decide)
theorem f_33_3 {ω : am_W} (h : Bs ω) : am_get ω 33 3 = 43 := bs_rf h (by decide)
theorem f_33_4 {ω : am_W} (h : Bs ω) : am_get ω 33 4 = 45 := bs_rf h (by decide)
theorem f_33_5 {ω : am_W} (h : Bs ω) : am_get ω 33 5 = 47 := bs_rf h (by decide)
theorem f_33_6 {ω : am_W} (h : Bs ω) : am_get ω 33 6 = 49 := bs_rf h (by decide)
theorem f_33_7 {ω : am_W} (h : Bs ω) : am_get ω 33 7 = 51 := bs_rf h (by decide)
theorem f_37_2 {ω : am_W} (h : Bs ω) : am_get ω 37 2 = 38 := bs_rf h (by decide)
theorem f_39_2 {ω : am_W} (h : Bs ω) : am_get ω 39 2 = 40 := bs_rf h (by decide)
theorem f_41_2 {ω : am_W} (h : Bs ω) : am_get ω 41 2 = 42 := bs_rf h (by decide)
theorem f_43_2 {ω : am_W} (h : Bs ω) : am_get ω 43 2 = 44 := bs_rf h (by decide)
theorem f_45_2 {ω : am_W} (h : Bs ω) : am_get ω 45 2 = 46 := bs_rf h (by decide)
theorem f_47_2 {ω : am_W} (h : Bs ω) : am_get ω 47 2 = 48 := bs_rf h (by decide)
theorem f_49_2 {ω : am_W} (h : Bs ω) : am_get ω 49 2 = 50 := bs_rf h (by decide)
theorem f_51_2 {ω : am_W} (h : Bs ω) : am_get ω 51 2 = 52 := bs_rf h (by decide)
theorem f_53_0 {ω : am_W} (h : Bs ω) : am_get ω 53 0 = 54 := bs_rf h (by decide)
theorem f_53_1 {ω : am_W} (h : Bs ω) : am_get ω 53 1 = 55 := bs_rf h (by decide)
theorem f_53_2 {ω : am_W} (h : Bs ω) : am_get ω 53 2 = 56 := bs_rf h (by decide)
theorem f_53_4 {ω : am_W} (h : Bs ω) : am_get ω 53 4 = 57 := bs_rf h (by decide)
theorem f_53_5 {ω : am_W} (h : Bs ω) : am_get ω 53 5 = 58 := bs_rf h (by decide)
theorem f_53_7 {ω : am_W} (h : Bs ω) : am_get ω 53 7 = 59 := bs_rf h (by decide)
theorem f_53_8 {ω : am_W} (h : Bs ω) : am_get ω 53 8 = 60 := bs_rf h (by decide)
theorem f_53_9 {ω : am_W} (h : Bs ω) : am_get ω 53 9 = 61 := bs_rf h (by decide)
theorem f_53_10 {ω : am_W} (h : Bs ω) : am_get ω 53 10 = 62 := bs_rf h (by decide)
theorem f_53_11 {ω : am_W} (h : Bs ω) : am_get ω 53 11 = 63 := bs_rf h (by decide)
theorem f_53_16 {ω : am_W} (h : Bs ω) : am_get ω 53 16 = 64 := bs_rf h (by decide)
theorem f_53_21 {ω : am_W} (h : Bs ω) : am_get ω 53 21 = 65 := bs_rf h (by decide)
theorem f_53_23 {ω : am_W} (h : Bs ω) : am_get ω 53 23 = 66 := bs_rf h (by decide)
theorem f_53_24 {ω : am_W} (h : Bs ω) : am_get ω 53 24 = 67 := bs_rf h (by decide)
theorem f_53_25 {ω : am_W} (h : Bs ω) : am_get ω 53 25 = 68 := bs_rf h (by decide)
theorem f_53_26 {ω : am_W} (h : Bs ω) : am_get ω 53 26 = 69 := bs_rf h (by decide)
theorem f_53_27 {ω : am_W} (h : Bs ω) : am_get ω 53 27 = 70 := bs_rf h (by decide)
theorem f_53_28 {ω : am_W} (h : Bs ω) : am_get ω 53 28 = 71 := bs_rf h (by decide)
