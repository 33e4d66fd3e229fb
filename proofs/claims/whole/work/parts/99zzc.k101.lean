/-! ===== burnt: sets of states ===== -/
section K101
section PU
variable {vd : Nat → Prop} {ok : Nat → Nat → Prop} {tg ln pc : Nat → Nat → Nat} {A : Nat → Nat → Nat → Prop} {D : Nat}
/-- behind one more step -/
def St (ok : Nat → Nat → Prop) (tg ln pc : Nat → Nat → Nat) (A : Nat → Nat → Nat → Prop) (q' b' d' : Nat) : Prop := ∃ q b d e, A q b d ∧ Sp1 ok tg ln pc q b q' b' e ∧ d' = d + e
def Stn (ok : Nat → Nat → Prop) (tg ln pc : Nat → Nat → Nat) (A : Nat → Nat → Nat → Prop) : Nat → Nat → Nat → Nat → Prop
  | 0 => A
  | k + 1 => St ok tg ln pc (Stn ok tg ln pc A k)
/-- only those that are at rest at x -/
def Kp (A : Nat → Nat → Nat → Prop) (x q b d : Nat) : Prop := q = x ∧ b = 0 ∧ A x 0 d
def AV (vd : Nat → Prop) (D : Nat) (A : Nat → Nat → Nat → Prop) : Prop := ∀ q b d, A q b d → vd q ∧ b ≤ 10 ∧ d ≤ D
theorem AV_s (hc : Cht vd ok tg ln pc) (h : AV vd D A) : AV vd (D + 9) (St ok tg ln pc A) := by
  rintro q' b' d' ⟨q, b, d, e, h1, h2, rfl⟩
  obtain ⟨v1, v2, v3⟩ := h q b d h1
  obtain ⟨w1, w2, w3⟩ := Sp1_b hc v1 v2 h2
  exact ⟨w1, w2, by omega⟩
theorem AV_n (hc : Cht vd ok tg ln pc) (h : AV vd D A) : ∀ k, AV vd (D + 9 * k) (Stn ok tg ln pc A k) := by
  intro k
  induction k with
  | zero => exact h
  | succ k ih =>
    have := AV_s hc ih
    rw [show D + 9 * (k + 1) = D + 9 * k + 9 by omega]
    exact this
theorem AV_k {x : Nat} (h : AV vd D A) : AV vd D (Kp A x) := by
  rintro q b d ⟨rfl, rfl, h1⟩
  exact h _ _ _ h1
theorem AV_le {E : Nat} (h : AV vd D A) (e : D ≤ E) : AV vd E A := fun q b d z => ⟨(h q b d z).1, (h q b d z).2.1, Nat.le_trans (h q b d z).2.2 e⟩
theorem Stn_a {k j : Nat} : Stn ok tg ln pc (Stn ok tg ln pc A k) j = Stn ok tg ln pc A (k + j) := by
  induction j with
  | zero => rfl
  | succ j ih =>
    show St ok tg ln pc (Stn ok tg ln pc (Stn ok tg ln pc A k) j) = St ok tg ln pc (Stn ok tg ln pc A (k + j))
    rw [ih]
/-- as long as it is busy there is one state -/
theorem Stn_b {q0 b0 : Nat} (hA : ∀ q b d, A q b d ↔ (q = q0 ∧ b = b0 ∧ d = 0)) : ∀ k, k ≤ b0 → ∀ q b d, Stn ok tg ln pc A k q b d ↔ (q = q0 ∧ b + k = b0 ∧ d = 0) := by
  intro k
  induction k with
  | zero => intro _ q b d; exact hA q b d
  | succ k ih =>
    intro hk q b d
    constructor
    · rintro ⟨q1, b1, d1, e, h1, h2, rfl⟩
      obtain ⟨rfl, g2, rfl⟩ := (ih (by omega) _ _ _).mp h1
      rcases h2 with ⟨s1, rfl, s3, rfl⟩ | ⟨s1, _⟩
      · exact ⟨rfl, by omega, rfl⟩
      · omega
    · rintro ⟨rfl, g2, rfl⟩
      exact ⟨q, b + 1, 0, 0, (ih (by omega) _ _ _).mpr ⟨rfl, by omega, rfl⟩, Or.inl ⟨by omega, rfl, rfl, rfl⟩, rfl⟩
theorem St_e (h : ∀ q b d, ¬ A q b d) : ∀ q b d, ¬ St ok tg ln pc A q b d := by
  rintro q b d ⟨q1, b1, d1, e, h1, _⟩
  exact h _ _ _ h1
theorem Stn_e (h : ∀ q b d, ¬ A q b d) : ∀ k q b d, ¬ Stn ok tg ln pc A k q b d := by
  intro k
  induction k with
  | zero => exact h
  | succ k ih => exact St_e ih
end PU
section CL
variable {ω : am_W} {p i : Nat} {n : Int} {T C : Nat → Int} {K : Int} {V : Nat → Nat → Int} {mem : Nat → Nat} {A : Nat → Nat → Nat → Prop}
/-- the ring stands for a set -/
def CR (n : Int) (T : Nat → Int) (ω : am_W) (p step : Nat) (A : Nat → Nat → Nat → Prop) : Prop := RIg (cvd n T) (fun q b m d => m = 0 ∧ A q b d) 1 step (fun m k => am_get ω (p + 15 + m) k) 999999
abbrev StF (n : Int) (T C : Nat → Int) (K : Int) (A : Nat → Nat → Nat → Prop) : Nat → Nat → Nat → Prop := St (cok n C K) (ctg T) (cln T) (cpc n C K) A
abbrev StnF (n : Int) (T C : Nat → Int) (K : Int) (A : Nat → Nat → Nat → Prop) : Nat → Nat → Nat → Nat → Prop := Stn (cok n C K) (ctg T) (cln T) (cpc n C K) A
theorem c_visS (R : Rd ω p i n T C K V 0 mem) (e12 : am_get ω p 12 = 999999) {s : Nat} (hs : s ≤ 60) (cr : CR n T ω p s A) (av : AV (cvd n T) 900 A) : ∃ ω2, am_run (13, 0) 0 ([some (.inr (.inr ((p : Int)))), some (.inl ((s : Int))), none, none, none, none, none], [], ω) = some (none, ω2) ∧ F72 ω ω2 ∧ Rd ω2 p i n T C K V 0 mem ∧ am_get ω2 p 12 = 999999 ∧ CR n T ω2 p (s + 1) (StF n T C K A) := by
  have hc := R.cht
  obtain ⟨r1, r2, r3, r4, r5, r6, r7, r8, r9, r10⟩ := id R
  have sts : StS (cok n C K) (ctg T) (cln T) (cpc n C K) (fun _ _ m => m) (fun q b m d => m = 0 ∧ A q b d) (fun q b m d => m = 0 ∧ StF n T C K A q b d) s := by
    intro q' b' m' d'
    constructor
    · rintro ⟨rfl, q, b, d, e, h1, h2, h3⟩
      refine ⟨q, b, 0, d, ⟨rfl, h1⟩, ?_⟩
      rcases h2 with ⟨g1, g2, g3, g4⟩ | ⟨g1, x, g2, g3, g4, g5, g6⟩
      · exact Or.inl ⟨g1, g2, g3, rfl, by omega⟩
      · exact Or.inr ⟨g1, x, g2, g3, g4, g5, rfl, by omega⟩
    · rintro ⟨q, b, m, d, ⟨rfl, h1⟩, ⟨g1, g2, g3, g4, g5⟩ | ⟨g1, x, g2, g3, g4, g5, g6, g7⟩⟩
      · exact ⟨g4, q, b, d, 0, h1, Or.inl ⟨g1, g2, g3, rfl⟩, by omega⟩
      · exact ⟨g6, q, b, d, cpc n C K x q, h1, Or.inr ⟨g1, x, g2, g3, g4, g5, rfl⟩, g7⟩
  have stv : StV (cvd n T) (fun q b m d => m = 0 ∧ A q b d) := fun q b m d z => av q b d z.2
  obtain ⟨ω2, v1, v2, v3, v4, v5, v6⟩ := g_visit (W := 1) (M := 0) r1 r2 r6 hc sts stv hs r7 (by omega) r9 (by omega) mem (fun k hk => absurd hk (Nat.not_lt_zero _)) (fun q m => rfl) (fun t q m h => h) (by rw [e12]; omega) (by rw [e12]; exact cr)
  have k12 : am_get ω2 p 12 = 999999 := by
    rcases v4 with ⟨x1, _, _⟩ | ⟨f, _, _, _, ⟨q, m, ⟨rfl, _⟩, y⟩, _⟩
    · exact x1.trans e12
    · have y' : (0 : Nat) = 1 := y
      omega
  rw [k12] at v3
  exact ⟨ω2, v1, v2.f72 r2.1, R.fw v2, k12, v3⟩
/-- only one spot is kept -/
theorem c_keep (R : Rd ω p i n T C K V 0 mem) (e12 : am_get ω p 12 = 999999) {s x : Nat} (hs : s ≤ 60) (hx : cvd n T x) (cr : CR n T ω p s A) (av : AV (cvd n T) 900 A) : ∃ (ω2 : am_W) (v : Int), am_run (8, 0) 0 ([some (.inr (.inr ((p : Int)))), some (.inl ((s : Int))), some (.inl ((x : Int))), none, none], [], ω) = some (some (.inl (if v = 1000000 then -1 else v)), ω2) ∧ LT (A x 0) 1000000 v ∧ F72 ω ω2 ∧ Rd ω2 p i n T C K V 0 mem ∧ am_get ω2 p 12 = 999999 ∧ CR n T ω2 p s (Kp A x) := by
  have hc := R.cht
  obtain ⟨r1, hP, r3, r4, r5, r6, r7, r8, r9, r10⟩ := id R
  have x120 := (hc x hx).1
  have lt := ix_lt (a := s) x120
  obtain ⟨k, hk⟩ : ∃ k, k = s % 11 * 120 + x := ⟨_, rfl⟩
  rw [← hk] at lt
  obtain ⟨v, hv⟩ : ∃ v, v = am_get ω (p + 15) k := ⟨_, rfl⟩
  have sh : ω.1[p + 15]? = some (100, 1320) := hP.2.1 15 (by omega)
  have w : ∀ _ : Unit, am_w (((s % 11 * 120 : Nat) : Int) + (x : Int)) = (k : Int) := fun _ => (am_w_s (by omega) (by omega)).trans (by omega)
  obtain ⟨ω1, h1⟩ : ∃ w, w = fillR ω (p + 15) 0 1320 1000000 := ⟨_, rfl⟩
  have d1 : Dc ω ω1 := by rw [h1]; exact fillR_dc (fun k => am_rp_at sh)
  have P1 := hP.dc d1
  have Q := pX1_keepOnly_0 (p : Int) s x ω
  have i1 := pl_ring hP (m := 0) (by omega) (i := (k : Int)) (by omega) (by omega)
  have i2 := pl_ring P1 (m := 0) (by omega) (i := (k : Int)) (by omega) (by omega)
  have fl : am_run (239, 0) 0 ([some (.inr (.inr (((p + 15 : Nat) : Int)))), some (.inl 1000000), none, none], [], ω) = some (none, ω1) := by rw [h1]; exact c_fillA sh (by omega)
  have q0 : am_get ω (p + 14) 0 = ((p + 15 : Nat) : Int) := pl_r hP (j := 0) (by omega)
  have q1 : am_get ω1 (p + 14) 0 = ((p + 15 : Nat) : Int) := pl_r P1 (j := 0) (by omega)
  rw [bi_v (c_slot (t := s) (by omega)), w (), if_pos (pl_is hP), Int.toNat_natCast, pl_6 hP, if_pos (pl_ina7 hP (i := 0) (by omega) (by omega)), Int.toNat_natCast, q0, if_pos i1, bv_v fl, if_pos (pl_is P1), pl_6 P1, if_pos (pl_ina7 P1 (i := 0) (by omega) (by omega)), Int.toNat_natCast, q1, if_pos i2, Int.toNat_natCast, Int.toNat_natCast, ← hv] at Q
  obtain ⟨ω2, h2⟩ : ∃ w, w = am_put ω1 (p + 15) k v := ⟨_, rfl⟩
  rw [← h2] at Q
  have g2 : ∀ j, j < 1320 → am_get ω2 (p + 15) j = if j = k then v else 1000000 := fun j hj => by
    rw [h2]
    by_cases z : j = k
    · rw [z, gp_same, if_pos rfl]
    · rw [gp_place z, if_neg z, h1]; exact fillR_v ⟨by omega, hj⟩
  have d2 : Dc ω ω2 := by
    have := pl_dc P1 (r := 15) (k := k) (v := v) (by omega)
    rw [← h2] at this
    exact d1.tr this
  have f2 : FrW p ω ω2 := ⟨d2, fun a j _ z _ => by rw [h2, gp_cell (by omega), h1]; exact fillR_g (fun y => by omega)⟩
  have c1 : am_get ω (p + 15) (s % 11 * 120 + x) = 1000000 ∨ ∃ d : Nat, am_get ω (p + 15) (s % 11 * 120 + x) = (d : Int) ∧ (0 : Nat) = 0 ∧ A x 0 d := cr.1 0 (by omega) 0 (by omega) x hx
  rw [← hk, ← hv] at c1
  have c2 : ∀ d, A x 0 d → v ≤ (d : Int) := fun d hd => by
    have : am_get ω (p + 15) (s % 11 * 120 + x) ≤ (d : Int) := (cr.2 x 0 0 d ⟨rfl, hd⟩ (by have := (av _ _ _ hd).2.2; omega)).2
    rw [← hk, ← hv] at this
    exact this
  have L : LT (A x 0) 1000000 v := by
    rcases c1 with z | ⟨d, z1, _, z2⟩
    · exact Or.inl ⟨z, fun d hd => by have a := c2 d hd; have b := (av _ _ _ hd).2.2; omega⟩
    · exact Or.inr ⟨d, z1, by have b := (av _ _ _ z2).2.2; omega, z2, fun d' hd' => by have := c2 d' hd'; omega⟩
  refine ⟨ω2, v, ?_, L, f2.f72 hP.1, R.fw f2, ?_, fun m hm b hb q hq => ?_, fun q b m d hp hd => ?_⟩
  · rw [Q]
    by_cases z : v = 1000000
    · rw [if_neg (fun y => y z), if_pos z]
    · rw [if_pos z, if_neg z]
  · rw [h2, gp_cell (by omega), h1, fillR_g (by omega)]
    exact e12
  · obtain rfl : m = 0 := by omega
    have q120 := (hc q hq).1
    have e := g2 ((s + b) % 11 * 120 + q) (ix_lt q120)
    show am_get ω2 (p + 15) ((s + b) % 11 * 120 + q) = _ ∨ ∃ d : Nat, am_get ω2 (p + 15) ((s + b) % 11 * 120 + q) = _ ∧ _
    rw [e]
    by_cases z : (s + b) % 11 * 120 + q = k
    · rw [if_pos z]
      obtain rfl : b = 0 := by omega
      obtain rfl : q = x := by omega
      rcases c1 with y | ⟨d, y1, _, y2⟩
      · exact Or.inl y
      · exact Or.inr ⟨d, y1, rfl, rfl, rfl, y2⟩
    · rw [if_neg z]; exact Or.inl rfl
  · obtain ⟨rfl, rfl, rfl, h3⟩ := hp
    refine ⟨by omega, ?_⟩
    show am_get ω2 (p + 15) (s % 11 * 120 + q) ≤ _
    rw [← hk, g2 k lt, if_pos rfl]
    exact c2 d h3
theorem gN_0 : ∀ N, N ≤ 6 → gN 0 N = 0 := by
  have e : ∀ i, i < 6 → am_and 0 (am_shl 1 ((i : Nat) : Int)) = 0 := by decide +kernel
  have key : ∀ N, N ≤ 6 → gM (bitI 0) N = [] := by
    intro N
    induction N with
    | zero => intro _; rfl
    | succ N ih =>
      intro hN
      rw [gM_n (bit := bitI 0) (i := N) (fun z => z.1 (e N (by omega)))]
      exact ih (by omega)
  intro N hN
  unfold gN
  rw [key N hN]
  rfl
/-- at the start -/
theorem c_start (h : Inv ω) (hP : Pls ω p) {N : Nat} (hN : am_get ω 1 3 = (N : Int)) (hi : i < N) : ∃ (ω' : am_W) (mem : Nat → Nat), am_run (9, 0) 0 ([some (.inr (.inr ((p : Int)))), some (.inr (.inr (1 + 4 + (i : Int)))), some (.inl 0), some (.inl 999999), none], [], ω) = some (none, ω') ∧ F72 ω ω' ∧ Rd ω' p i (cn ω 1) (cT ω 1) (cC ω 1) (cV ω 1 i 0) (cV ω 1) 0 mem ∧ am_get ω' p 12 = 999999 ∧ CR (cn ω 1) (cT ω 1) ω' p (sB (cV ω 1 i)) (fun q b d => q = sQ (cV ω 1 i) ∧ b = 0 ∧ d = 0) := by
  obtain ⟨ω', r, f, R, ri, B⟩ := c_ready h hP hN hi 0 999999
  have N6 : N ≤ 6 := by
    have := h.2.2.1.2.1.2
    have e : ω.2.1 1 3 = am_get ω 1 3 := rfl
    omega
  rw [gN_0 N N6] at R ri B
  have k12 : am_get ω' p 12 = 999999 := by
    obtain ⟨_, _, ⟨x, _⟩ | ⟨f, g, _, _, _, ⟨t, y1, y2⟩, _⟩⟩ := B
    · exact x
    · exact (win_busy y1 y2).elim
  rw [k12] at ri
  refine ⟨ω', _, r, f, R, k12, fun m hm b hb q hq => ?_, fun q b m d hp hd => ?_⟩
  · rcases ri.1 m hm b hb q hq with z | ⟨d, z1, z2⟩
    · exact Or.inl z
    · obtain ⟨y1, y2, y3, y4⟩ := (P_busy _ (Nat.le_refl _) _ _ _ _).mp z2
      exact Or.inr ⟨d, z1, y3, y1, by omega, y4⟩
  · obtain ⟨rfl, rfl, rfl, rfl⟩ := hp
    exact ri.2 _ 0 0 0 ((P_busy _ (Nat.le_refl _) _ _ _ _).mpr ⟨rfl, by omega, rfl, rfl⟩) hd
end CL
end K101
