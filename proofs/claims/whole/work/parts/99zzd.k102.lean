/-! ===== burnt: the class ===== -/
section K102
/-- the step of the sighting before -/
def pv (t : Nat → Nat) : Nat → Nat
  | 0 => 0
  | k + 1 => t k
def Sg (n : Int) (T C : Nat → Int) (K : Int) (A : Nat → Nat → Nat → Prop) (t x : Nat → Nat) : Nat → Nat → Nat → Nat → Prop
  | 0 => A
  | k + 1 => Kp (StnF n T C K (Sg n T C K A t x k) (t k - pv t k)) (x k)
def Any (A : Nat → Nat → Nat → Prop) (d : Nat) : Prop := ∃ q b, A q b d
/-- the least of a set, or -1 -/
def RZ (P : Nat → Prop) (r : Int) : Prop := (r = -1 ∧ ∀ d, ¬ P d) ∨ ∃ d : Nat, r = (d : Int) ∧ P d ∧ ∀ d', P d' → d ≤ d'
theorem RZ_u {P : Nat → Prop} {r r' : Int} (h : RZ P r) (h' : RZ P r') : r = r' := by
  rcases h with ⟨rfl, n⟩ | ⟨d, rfl, p, l⟩
  · rcases h' with ⟨rfl, _⟩ | ⟨d', _, p', _⟩
    · rfl
    · exact absurd p' (n d')
  · rcases h' with ⟨_, n⟩ | ⟨d', rfl, p', l'⟩
    · exact absurd p (n d)
    · have := l d' p'
      have := l' d p
      omega
theorem RZ_l {P : Nat → Prop} {F v : Int} (h : LT P F v) : RZ P (if v = F then -1 else v) := by
  rcases h with ⟨rfl, n⟩ | ⟨d, rfl, f, p, l⟩
  · rw [if_pos rfl]; exact Or.inl ⟨rfl, n⟩
  · rw [if_neg (by omega)]; exact Or.inr ⟨d, rfl, p, l⟩
theorem any_k {A : Nat → Nat → Nat → Prop} {x d : Nat} : Any (Kp A x) d ↔ A x 0 d := ⟨fun ⟨_, _, _, _, z⟩ => z, fun z => ⟨x, 0, rfl, rfl, z⟩⟩
theorem LT_any {A : Nat → Nat → Nat → Prop} {x : Nat} {F v : Int} (h : LT (A x 0) F v) : LT (Any (Kp A x)) F v := LT_c (fun _ => any_k.symm) h
section SG
variable {n : Int} {T C : Nat → Int} {K : Int} {A : Nat → Nat → Nat → Prop} {t x : Nat → Nat} {N : Nat}
/-- sightings as they should be -/
def SgO (n : Int) (T : Nat → Int) (t x : Nat → Nat) (N : Nat) : Prop := ∀ k, k < N → pv t k ≤ t k ∧ t k ≤ 60 ∧ cvd n T (x k)
theorem Sg_e {k : Nat} (h : ∀ q b d, ¬ Sg n T C K A t x k q b d) : ∀ m q b d, ¬ Sg n T C K A t x (k + m) q b d := by
  intro m
  induction m with
  | zero => exact h
  | succ m ih =>
    rintro q b d ⟨_, _, z⟩
    exact Stn_e ih _ _ _ _ z
theorem pv_60 (o : SgO n T t x N) : ∀ k, k ≤ N → pv t k ≤ 60 := by
  intro k hk
  cases k with
  | zero => exact Nat.zero_le _
  | succ k => exact (o k (by omega)).2.1
theorem Sg_v (hc : Cht (cvd n T) (cok n C K) (ctg T) (cln T) (cpc n C K)) (o : SgO n T t x N) (h : AV (cvd n T) 0 A) : ∀ k, k ≤ N → AV (cvd n T) (9 * pv t k) (Sg n T C K A t x k) := by
  intro k
  induction k with
  | zero => intro _; exact h
  | succ k ih =>
    intro hk
    have a := AV_k (x := x k) (AV_n hc (ih (by omega)) (t k - pv t k))
    have := (o k (by omega)).1
    exact AV_le a (by show _ ≤ 9 * t k; omega)
end SG
section CL
variable {ω : am_W} {p i : Nat} {n : Int} {T C : Nat → Int} {K : Int} {V : Nat → Nat → Int} {mem : Nat → Nat} {A : Nat → Nat → Nat → Prop}
/-- up to a step -/
theorem c_upto {D τ : Nat} (hD : D + 9 * τ ≤ 900) (hτ : τ ≤ 60) {l1 l2 l3 l5 l6 l8 : Int} : ∀ m s, s + m = τ → ∀ ω1 A, F72 ω ω1 → Rd ω1 p i n T C K V 0 mem → am_get ω1 p 12 = 999999 → CR n T ω1 p s A → AV (cvd n T) (D + 9 * s) A → ∃ ω2, am_run (7, 0) 90 ([some (.inr (.inr ((p : Int)))), some (.inr (.inr l1)), some (.inr (.inr l2)), some (.inl l3), some (.inl ((s : Int))), some (.inl l5), some (.inl l6), some (.inl ((τ : Int))), some (.inl l8)], [], ω1) = am_run (7, 0) 90 ([some (.inr (.inr ((p : Int)))), some (.inr (.inr l1)), some (.inr (.inr l2)), some (.inl l3), some (.inl ((τ : Int))), some (.inl l5), some (.inl l6), some (.inl ((τ : Int))), some (.inl l8)], [], ω2) ∧ F72 ω ω2 ∧ Rd ω2 p i n T C K V 0 mem ∧ am_get ω2 p 12 = 999999 ∧ CR n T ω2 p τ (StnF n T C K A m) := by
  intro m
  induction m with
  | zero =>
    intro s hs ω1 A f R e cr av
    obtain rfl : s = τ := by omega
    exact ⟨ω1, rfl, f, R, e, cr⟩
  | succ m ih =>
    intro s hs ω1 A f R e cr av
    obtain ⟨ω2, r2, f2, R2, e2, cr2⟩ := c_visS R e (s := s) (by omega) cr (AV_le av (by omega))
    have Q := pX1_dropsThrough_90 (p : Int) l1 l2 l3 s l5 l6 τ l8 ω1 (pl_is R.2.1)
    rw [if_neg (by omega), bv_v r2, am_w_s (by omega) (by omega), show (s : Int) + 1 = ((s + 1 : Nat) : Int) by omega] at Q
    obtain ⟨ω3, r3, f3, R3, e3, cr3⟩ := ih (s + 1) (by omega) ω2 _ (f.tr f2) R2 e2 cr2 (AV_le (AV_s R.cht av) (by omega))
    have ea : StnF n T C K (StF n T C K A) m = StnF n T C K A (m + 1) := by
      have := Stn_a (ok := cok n C K) (tg := ctg T) (ln := cln T) (pc := cpc n C K) (A := A) (k := 1) (j := m)
      rw [Nat.add_comm 1 m] at this
      exact this
    rw [ea] at cr3
    exact ⟨ω3, Q.trans r3, f3, R3, e3, cr3⟩
/-- the row of the sightings -/
def Rw (R : Nat → Int) (t x : Nat → Nat) (N : Nat) : Prop := ∀ k, k < N → R (3 * k) = (t k : Int) ∧ 0 ≤ R (3 * k + 1) ∧ R (3 * k + 1) < 6 ∧ 0 ≤ R (3 * k + 2) ∧ R (3 * k + 2) < 20 ∧ R (3 * k + 1) * 20 + R (3 * k + 2) = (x k : Int)
theorem c_through {t x : Nat → Nat} {N σ b0 : Nat} (hc : Cht (cvd n T) (cok n C K) (ctg T) (cln T) (cpc n C K)) (hσ : σ < 8) (hN : N ≤ 10) (h1N : 1 ≤ N) (hz : (3 * N : Int) ≤ am_get ω (37 + 2 * σ) 1) (rw1 : Rw (am_get ω (38 + 2 * σ)) t x N) (o : SgO n T t x N) (hb : b0 ≤ 10) (av0 : AV (cvd n T) 0 A) (hB : ∀ τ, τ < b0 → ∀ q d, ¬ StnF n T C K A τ q 0 d) {l1 : Int} : ∀ m k, k + m = N → ∀ (ω1 : am_W) (s : Nat) (l5 : Int) (o7 o8 : Option am_V), F72 ω ω1 → Rd ω1 p i n T C K V 0 mem → am_get ω1 p 12 = 999999 → pv t k ≤ s → CR n T ω1 p s (StnF n T C K (Sg n T C K A t x k) (s - pv t k)) → ((k = 0 ∧ s = b0) ∨ (s = pv t k ∧ RZ (Any (Sg n T C K A t x k)) l5)) → (k = N → RZ (Any (Sg n T C K A t x k)) l5) → ∃ (ω2 : am_W) (r : Int), am_run (7, 0) 20 ([some (.inr (.inr ((p : Int)))), some (.inr (.inr l1)), some (.inr (.inr (((37 + 2 * σ : Nat) : Int)))), some (.inl ((N : Int))), some (.inl ((s : Int))), some (.inl l5), some (.inl ((k : Int))), o7, o8], [], ω1) = some (some (.inl r), ω2) ∧ F72 ω ω2 ∧ RZ (Any (Sg n T C K A t x N)) r := by
  intro m
  induction m with
  | zero =>
    intro k hk ω1 s l5 o7 o8 f R e hs cr hk2 hkN
    obtain rfl : k = N := by omega
    have Q := pX1_dropsThrough_20 (p : Int) l1 ((37 + 2 * σ : Nat) : Int) k s l5 k o7 o8 ω1 (is_shelf R.1.1 hσ)
    rw [if_pos (Int.le_refl _)] at Q
    exact ⟨ω1, l5, Q, f, hkN rfl⟩
  | succ m ih =>
    intro k hk ω1 s l5 o7 o8 f R e hs cr hk2 hkN
    have kN : k < N := by omega
    obtain ⟨o1, o2, o3⟩ := o k kN
    obtain ⟨w1, w2, w3, w4, w5, w6⟩ := rw1 k kN
    have B1 := R.1.1
    have x120 := (hc _ o3).1
    have c1 : ∀ _ : Unit, am_w (3 * (k : Int)) = ((3 * k : Nat) : Int) := fun _ => (am_w_s (by omega) (by omega)).trans (by omega)
    have c2 : ∀ _ : Unit, am_w (((3 * k : Nat) : Int) + 1) = ((3 * k + 1 : Nat) : Int) := fun _ => (am_w_s (by omega) (by omega)).trans (by omega)
    have c3 : ∀ _ : Unit, am_w (((3 * k : Nat) : Int) + 2) = ((3 * k + 2 : Nat) : Int) := fun _ => (am_w_s (by omega) (by omega)).trans (by omega)
    have g0 : am_get ω1 (38 + 2 * σ) (3 * k) = (t k : Int) := (f.2 _ _ (by omega)).trans w1
    have g1 : am_get ω1 (38 + 2 * σ) (3 * k + 1) = am_get ω (38 + 2 * σ) (3 * k + 1) := f.2 _ _ (by omega)
    have g2 : am_get ω1 (38 + 2 * σ) (3 * k + 2) = am_get ω (38 + 2 * σ) (3 * k + 2) := f.2 _ _ (by omega)
    have gz : am_get ω1 (37 + 2 * σ) 1 = am_get ω (37 + 2 * σ) 1 := f.2 _ _ (by omega)
    have a0 : ∀ _ : Unit, am_w ((t k : Nat) : Int) = (t k : Int) := fun _ => am_w_s (by omega) (by omega)
    have a1 : ∀ _ : Unit, am_w (am_w (am_w (am_get ω (38 + 2 * σ) (3 * k + 1)) * 20) + am_w (am_get ω (38 + 2 * σ) (3 * k + 2))) = (x k : Int) := fun _ => by
      rw [am_w_s (z := am_get ω (38 + 2 * σ) (3 * k + 1)) (by omega) (by omega), am_w_s (z := am_get ω (38 + 2 * σ) (3 * k + 2)) (by omega) (by omega), am_w_s (z := am_get ω (38 + 2 * σ) (3 * k + 1) * 20) (by omega) (by omega), am_w_s (by omega) (by omega)]
      exact w6
    have Q := pX1_dropsThrough_20 (p : Int) l1 ((37 + 2 * σ : Nat) : Int) N s l5 k o7 o8 ω1 (is_shelf B1 hσ)
    rw [if_neg (by omega), Int.toNat_natCast, gz, c1 (), c2 (), c3 (), if_neg (by omega), g_elem B1 hσ, if_pos (in_elem B1 hσ (Int.natCast_nonneg _) (by omega)), if_pos (in_elem B1 hσ (Int.natCast_nonneg _) (by omega)), if_pos (in_elem B1 hσ (Int.natCast_nonneg _) (by omega)), Int.toNat_natCast, Int.toNat_natCast, Int.toNat_natCast, Int.toNat_natCast, g0, g1, g2, a0 (), a1 ()] at Q
    have none_of : (∀ q b d, ¬ Sg n T C K A t x (k + 1) q b d) → RZ (Any (Sg n T C K A t x N)) (-1) := fun z => by
      refine Or.inl ⟨rfl, fun d y => ?_⟩
      obtain ⟨q, b, y⟩ := y
      have := Sg_e z (N - (k + 1)) q b d
      rw [show k + 1 + (N - (k + 1)) = N by omega] at this
      exact this y
    by_cases gs : s ≤ t k
    · rw [if_pos (by omega)] at Q
      have av := Sg_v hc o av0 k (by omega)
      obtain ⟨ω2, r2, f2, R2, e2, cr2⟩ := c_upto (ω := ω) (D := 0) (τ := t k) (by omega) o2 (l1 := l1) (l2 := ((37 + 2 * σ : Nat) : Int)) (l3 := (N : Int)) (l5 := l5) (l6 := (k : Int)) (l8 := (x k : Int)) (t k - s) s (by omega) ω1 _ f R e cr (AV_le (AV_n hc av (s - pv t k)) (by omega))
      rw [show StnF n T C K (StnF n T C K (Sg n T C K A t x k) (s - pv t k)) (t k - s) = StnF n T C K (Sg n T C K A t x k) (t k - pv t k) from by rw [show t k - pv t k = (s - pv t k) + (t k - s) by omega]; exact Stn_a] at cr2
      have av2 := AV_n hc av (t k - pv t k)
      obtain ⟨ω3, v, r3, l3, f3, R3, e3, cr3⟩ := c_keep R2 e2 (s := t k) (x := x k) o2 o3 cr2 (AV_le av2 (by omega))
      have Q2 := pX1_dropsThrough_90 (p : Int) l1 ((37 + 2 * σ : Nat) : Int) N (t k) l5 k (t k) (x k) ω2 (pl_is R2.2.1)
      have k1 : ∀ _ : Unit, am_w ((k : Int) + 1) = ((k + 1 : Nat) : Int) := fun _ => (am_w_s (by omega) (by omega)).trans (by omega)
      rw [if_pos (Int.le_refl _), bi_v r3, k1 ()] at Q2
      by_cases gv : v = 1000000
      · rw [if_pos gv, if_neg (fun z => z rfl)] at Q2
        refine ⟨ω3, -1, Q.trans (r2.trans Q2), f2.tr f3, none_of (fun q b d z => ?_)⟩
        rcases l3 with ⟨_, y⟩ | ⟨d', y1, y2, _⟩
        · exact y d z.2.2
        · omega
      · have v0 := (LT_r l3 (by omega)).1
        rw [if_neg gv, if_pos (by omega)] at Q2
        have rz := RZ_l (LT_any l3)
        rw [if_neg gv] at rz
        obtain ⟨ω4, r, r4, f4, z4⟩ := ih (k + 1) (by omega) ω3 (t k) v _ _ (f2.tr f3) R3 e3 (Nat.le_refl _) (by rw [show t k - pv t (k + 1) = 0 from Nat.sub_self _]; exact cr3) (Or.inr ⟨rfl, rz⟩) (fun _ => rz)
        exact ⟨ω4, r, Q.trans (r2.trans (Q2.trans r4)), f4, z4⟩
    · rw [if_neg (by omega)] at Q
      refine ⟨ω1, -1, Q, f, none_of (fun q b d z => ?_)⟩
      rcases hk2 with ⟨rfl, rfl⟩ | ⟨y, _⟩
      · exact hB (t 0) (by omega) _ _ z.2.2
      · omega
theorem c_dropsThrough (h : Inv ω) (hP : Pls ω p) {t x : Nat → Nat} {N σ M : Nat} (hM : am_get ω 1 3 = (M : Int)) (hi : i < M) (hσ : σ < 8) (hN : N ≤ 10) (h1N : 1 ≤ N) (hz : (3 * N : Int) ≤ am_get ω (37 + 2 * σ) 1) (rw1 : Rw (am_get ω (38 + 2 * σ)) t x N) (o : SgO (cn ω 1) (cT ω 1) t x N) : ∃ (ω2 : am_W) (r : Int), am_run (7, 0) 0 ([some (.inr (.inr ((p : Int)))), some (.inr (.inr (1 + 4 + (i : Int)))), some (.inr (.inr (((37 + 2 * σ : Nat) : Int)))), some (.inl ((N : Int))), none, none, none, none, none], [], ω) = some (some (.inl r), ω2) ∧ F72 ω ω2 ∧ RZ (Any (Sg (cn ω 1) (cT ω 1) (cC ω 1) (cV ω 1 i 0) (fun q b d => q = sQ (cV ω 1 i) ∧ b = sB (cV ω 1 i) ∧ d = 0) t x N)) r := by
  obtain ⟨i6, s1, s2, s3, s4, s5, s6, s7⟩ := ship_q h hM hi
  obtain ⟨ω1, mem, r1, f1, R1, e1, cr1⟩ := c_start h hP hM hi
  have hc := R1.cht
  have e4 : am_get ω1 (1 + 4 + (i : Int)).toNat 4 = (sB (cV ω 1 i) : Int) := (f1.2 _ _ (by omega)).trans s4
  have Q := pX1_dropsThrough_0 (p : Int) (1 + 4 + (i : Int)) ((37 + 2 * σ : Nat) : Int) N ω (pl_is hP)
  rw [bv_v r1, if_pos (is_V R1.1.1 (W := 1) (Or.inl rfl) i6), e4] at Q
  have sb := Stn_b (ok := cok (cn ω 1) (cC ω 1) (cV ω 1 i 0)) (tg := ctg (cT ω 1)) (ln := cln (cT ω 1)) (pc := cpc (cn ω 1) (cC ω 1) (cV ω 1 i 0)) (A := fun q b d => q = sQ (cV ω 1 i) ∧ b = sB (cV ω 1 i) ∧ d = 0) (q0 := sQ (cV ω 1 i)) (b0 := sB (cV ω 1 i)) (fun q b d => Iff.rfl)
  have es : StnF (cn ω 1) (cT ω 1) (cC ω 1) (cV ω 1 i 0) (fun q b d => q = sQ (cV ω 1 i) ∧ b = sB (cV ω 1 i) ∧ d = 0) (sB (cV ω 1 i)) = fun q b d => q = sQ (cV ω 1 i) ∧ b = 0 ∧ d = 0 := by
    funext q b d
    refine propext ((sb _ (Nat.le_refl _) q b d).trans ?_)
    exact ⟨fun z => ⟨z.1, by omega, z.2.2⟩, fun z => ⟨z.1, by omega, z.2.2⟩⟩
  rw [← es] at cr1
  obtain ⟨ω2, r, r2, f2, z2⟩ := c_through (ω := ω) (p := p) (i := i) (V := cV ω 1) (mem := mem) hc hσ hN h1N hz rw1 o s3 (A := fun q b d => q = sQ (cV ω 1 i) ∧ b = sB (cV ω 1 i) ∧ d = 0) (by rintro q b d ⟨rfl, rfl, rfl⟩; exact ⟨s1, s3, Nat.le_refl _⟩) (fun τ hτ q d z => by have := ((sb τ (by omega) q 0 d).mp z).2.1; omega) (l1 := 1 + 4 + (i : Int)) N 0 (by omega) ω1 (sB (cV ω 1 i)) (-1) none none f1 R1 e1 (Nat.zero_le _) cr1 (Or.inl ⟨rfl, rfl⟩) (fun z => by omega)
  exact ⟨ω2, r, Q.trans r2, f2, z2⟩
end CL
end K102
