/-! ===== the chart of a sky ===== -/
section K55
section CH
variable (n : Int) (T C : Nat → Int) (k : Int)
def cvd (q : Nat) : Prop := ((q / 20 : Nat) : Int) < n ∧ ((q % 20 : Nat) : Int) < T (q / 20)
def cok (x q : Nat) : Prop := x = 0 ∨ ((x = 1 ∨ x = 2) ∧ (k = 0 ∨ k = 1 ∨ k = 5) ∧ prF n C k (low ((q / 20 : Nat) : Int) (x : Int)) ≠ -1)
def ctI (x q : Nat) : Int := if x = 0 then ((q / 20 : Nat) : Int) * 20 + (((q % 20 : Nat) : Int) + 1) % T (q / 20) else nxt ((q / 20 : Nat) : Int) (x : Int) * 20 + fL ((q % 20 : Nat) : Int) (T (q / 20)) (T (nxt ((q / 20 : Nat) : Int) (x : Int)).toNat)
def clI (x q : Nat) : Int := if x = 0 then 1 else T (q / 20) / 2
def cpI (x q : Nat) : Int := if x = 0 then 0 else prF n C k (low ((q / 20 : Nat) : Int) (x : Int))
def ctg (x q : Nat) : Nat := (ctI T x q).toNat
def cln (x q : Nat) : Nat := (clI T x q).toNat
def cpc (x q : Nat) : Nat := (cpI n C k x q).toNat
end CH
section CH2
variable {n : Int} {T C : Nat → Int} {k : Int}
theorem prF_b (hn : n ≤ 6) (hC : ∀ j, j < 5 → 1 ≤ C j ∧ C j ≤ 9) {l : Int} (h : prF n C k l ≠ -1) : (0 ≤ l ∧ l < n - 1) ∧ 1 ≤ prF n C k l ∧ prF n C k l ≤ 9 := by
  unfold prF at h ⊢
  by_cases g : 0 ≤ l ∧ l < n - 1
  · rw [if_pos g]
    have := hC l.toNat (by omega)
    refine ⟨g, ?_⟩
    unfold fP
    by_cases z : k = 1 ∨ k = 5
    · rw [if_pos z]; omega
    · rw [if_neg z]; omega
  · rw [if_neg g] at h; exact absurd rfl h
/-- where a code can be, the numbers are good -/
theorem chI (hn : n ≤ 6) (hT : Tok T) (hC : ∀ j, j < 5 → 1 ≤ C j ∧ C j ≤ 9) {x q : Nat} (hq : cvd n T q) (hx : cok n C k x q) : 0 ≤ ctI T x q ∧ cvd n T (ctI T x q).toNat ∧ 1 ≤ clI T x q ∧ clI T x q ≤ 10 ∧ 0 ≤ cpI n C k x q ∧ cpI n C k x q ≤ 9 := by
  obtain ⟨q1, q2⟩ := hq
  have t := hT (q / 20) (by omega)
  have vd : ∀ (c r : Int), 0 ≤ c → c < n → 0 ≤ r → r < T c.toNat → 0 ≤ c * 20 + r ∧ cvd n T (c * 20 + r).toNat := by
    intro c r c0 c1 r0 r1
    have tc := hT c.toNat (by omega)
    have e1 : (c * 20 + r).toNat / 20 = c.toNat := by omega
    have e2 : (c * 20 + r).toNat % 20 = r.toNat := by omega
    refine ⟨by omega, ?_⟩
    unfold cvd
    rw [e1, e2]
    exact ⟨by omega, by omega⟩
  rcases hx with rfl | ⟨hx, hk, hp⟩
  · unfold ctI clI cpI
    rw [if_pos rfl, if_pos rfl, if_pos rfl]
    have m0 := Int.emod_nonneg (((q % 20 : Nat) : Int) + 1) (show T (q / 20) ≠ 0 by omega)
    have m1 := Int.emod_lt_of_pos (((q % 20 : Nat) : Int) + 1) (show 0 < T (q / 20) by omega)
    obtain ⟨v1, v2⟩ := vd ((q / 20 : Nat) : Int) _ (by omega) q1 m0 (by rw [Int.toNat_natCast]; exact m1)
    exact ⟨v1, v2, by omega, by omega, by omega, by omega⟩
  · have x0 : x ≠ 0 := by omega
    obtain ⟨b1, b2, b3⟩ := prF_b hn hC hp
    have nx : 0 ≤ nxt ((q / 20 : Nat) : Int) (x : Int) ∧ nxt ((q / 20 : Nat) : Int) (x : Int) < n := by
      unfold low at b1
      unfold nxt
      rcases hx with rfl | rfl
      · rw [if_pos (show ((1 : Nat) : Int) = 1 from rfl)] at b1 ⊢; omega
      · rw [if_neg (by omega)] at b1 ⊢; omega
    unfold ctI clI cpI
    rw [if_neg x0, if_neg x0, if_neg x0]
    have tn := hT (nxt ((q / 20 : Nat) : Int) (x : Int)).toNat (by omega)
    have f := fL_ok (p := ((q % 20 : Nat) : Int)) (a := T (q / 20)) tn.1
    obtain ⟨v1, v2⟩ := vd _ _ nx.1 nx.2 f.1 f.2
    exact ⟨v1, v2, by omega, by omega, by omega, by omega⟩
theorem cht_ok (hn : n ≤ 6) (hT : Tok T) (hC : ∀ j, j < 5 → 1 ≤ C j ∧ C j ≤ 9) : Cht (cvd n T) (cok n C k) (ctg T) (cln T) (cpc n C k) := by
  intro q hq
  refine ⟨by obtain ⟨q1, q2⟩ := hq; omega, Or.inl rfl, fun x hx hok => ?_⟩
  obtain ⟨a1, a2, a3, a4, a5, a6⟩ := chI hn hT hC hq hok
  unfold ctg cln cpc
  exact ⟨a2, by omega, by omega, by omega⟩
end CH2
/-! ===== the chart is written ===== -/
section CW
variable {ω : am_W} {p : Nat}
def FrK (p : Nat) (ω ω' : am_W) : Prop := Dc ω ω' ∧ ∀ a k, ¬ (a = p ∧ k = 2) → ¬ (p + 1 ≤ a ∧ a < p + 14) → am_get ω' a k = am_get ω a k
theorem FrK.rf : FrK p ω ω := ⟨Dc.rf ω, fun _ _ _ _ => rfl⟩
theorem FrK.tr {ω1 ω2 : am_W} (h : FrK p ω ω1) (g : FrK p ω1 ω2) : FrK p ω ω2 := ⟨h.1.tr g.1, fun a k h1 h2 => (g.2 a k h1 h2).trans (h.2 a k h1 h2)⟩
theorem FrK.row (hP : Pls ω p) {r k : Nat} {v : Int} (hr : r = 1 ∨ (3 ≤ r ∧ r < 6) ∨ (7 ≤ r ∧ r < 10) ∨ (11 ≤ r ∧ r < 14)) : FrK p ω (am_put ω (p + r) k v) := ⟨pl_dc hP (by omega), fun a k' _ h2 => if_neg (fun z => h2 (by omega))⟩
theorem FrK.cnt (hP : Pls ω p) {v : Int} : FrK p ω (am_put ω p 2 v) := ⟨pl_dc hP (r := 0) (by omega), fun a k' h1 _ => if_neg h1⟩
theorem FrK.inv {ω' : am_W} (h : Inv ω) (hp : 72 ≤ p) (g : FrK p ω ω') : Inv ω' := inv_scr h g.1 (fun a k z => g.2 a k (fun y => z (by unfold Sc; omega)) (fun y => z (by unfold Sc; omega)))
/-- one code at one spot is written -/
def Wr1 (ω : am_W) (p x q : Nat) (ok : Nat → Nat → Prop) (tg ln pc : Nat → Nat → Nat) : Prop := (ok x q → am_get ω (p + 3 + x) q = (tg x q : Int) ∧ am_get ω (p + 7 + x) q = (ln x q : Int) ∧ am_get ω (p + 11 + x) q = (pc x q : Int)) ∧ (¬ ok x q → am_get ω (p + 3 + x) q = -1)
end CW
end K55
