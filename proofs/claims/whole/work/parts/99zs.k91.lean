/-! ===== the way: the codes, pure ===== -/
section K91
variable {vd : Nat → Prop} {ok : Nat → Nat → Prop} {tg ln pc : Nat → Nat → Nat} {g : Nat}
/-- by code x, k steps being left behind this one -/
def BY (ok : Nat → Nat → Prop) (tg ln pc : Nat → Nat → Nat) (g k q x d : Nat) : Prop := ok x q ∧ ∃ d', Tg ok tg ln pc g k (tg x q) (ln x q - 1) d' ∧ d = pc x q + d'
theorem BY_t (hl : ∀ x q, x < 3 → vd q → ok x q → 1 ≤ ln x q) {k q d : Nat} (hq : vd q) : Tg ok tg ln pc g (k + 1) q 0 d ↔ ∃ x, x < 3 ∧ BY ok tg ln pc g k q x d := by
  rw [Tg_s]
  constructor
  · rintro ⟨q', b', e, d', ⟨s1, _⟩ | ⟨_, x, x1, x2, rfl, x4, rfl⟩, h2, h3⟩
    · omega
    · exact ⟨x, x1, x2, d', by rw [← x4, Nat.add_sub_cancel]; exact h2, h3⟩
  · rintro ⟨x, x1, x2, d', h2, h3⟩
    exact ⟨_, _, _, d', Or.inr ⟨rfl, x, x1, x2, rfl, Nat.sub_add_cancel (hl x q x1 hq x2), rfl⟩, h2, h3⟩
theorem BY_c {k q x d : Nat} (h1 : ok x q → 1 ≤ ln x q) : BY ok tg ln pc g k q x d ↔ (ok x q ∧ ln x q ≤ k + 1 ∧ ∃ d', Tg ok tg ln pc g (k + 1 - ln x q) (tg x q) 0 d' ∧ d = pc x q + d') := by
  constructor
  · rintro ⟨x2, d', h2, h3⟩
    have l1 := h1 x2
    obtain ⟨y1, y2⟩ := (Tg_b _ k _ d').mp h2
    exact ⟨x2, by omega, d', by rw [show k + 1 - ln x q = k - (ln x q - 1) by omega]; exact y2, h3⟩
  · rintro ⟨x2, x3, d', h2, h3⟩
    have l1 := h1 x2
    exact ⟨x2, d', (Tg_b _ k _ d').mpr ⟨by omega, by rw [show k - (ln x q - 1) = k + 1 - ln x q by omega]; exact h2⟩, h3⟩
/-- one of a set is its least, or none -/
theorem LT_eq {P Q : Nat → Prop} {F v w : Int} (s : ∀ d, P d → Q d) (hP : LT P F v) (hQ : LT Q F w) (e : ∃ d, Q d) : v = w ↔ ∃ d, P d ∧ ∀ d', Q d' → d ≤ d' := by
  obtain ⟨d0, hd0⟩ := e
  rcases hQ with ⟨_, n⟩ | ⟨dq, rfl, fq, pq, lq⟩
  · exact absurd hd0 (n d0)
  · rcases hP with ⟨rfl, n⟩ | ⟨dp, rfl, fp, pp, lp⟩
    · exact ⟨fun z => by omega, fun z => by obtain ⟨d, z1, _⟩ := z; exact absurd z1 (n d)⟩
    · constructor
      · intro z
        exact ⟨dp, pp, fun d' hd' => by have := lq d' hd'; omega⟩
      · rintro ⟨d, z1, z2⟩
        have a := lp d z1
        have b := z2 dq pq
        have c := lq dp (s dp pp)
        omega
/-- code x is a best one -/
def bst (ok : Nat → Nat → Prop) (tg ln pc : Nat → Nat → Nat) (g k q x : Nat) : Prop := ∃ d, BY ok tg ln pc g k q x d ∧ ∀ d', Tg ok tg ln pc g (k + 1) q 0 d' → d ≤ d'
noncomputable def fb (ok : Nat → Nat → Prop) (tg ln pc : Nat → Nat → Nat) (g k q : Nat) : Nat := @ite _ (bst ok tg ln pc g k q 0) (Classical.propDecidable _) 0 (@ite _ (bst ok tg ln pc g k q 1) (Classical.propDecidable _) 1 2)
theorem fb_ok (hl : ∀ x q, x < 3 → vd q → ok x q → 1 ≤ ln x q) {k q : Nat} (hq : vd q) (h : ∃ d, Tg ok tg ln pc g (k + 1) q 0 d) : fb ok tg ln pc g k q < 3 ∧ bst ok tg ln pc g k q (fb ok tg ln pc g k q) ∧ ∀ y, y < fb ok tg ln pc g k q → ¬ bst ok tg ln pc g k q y := by
  have ex : ∃ x, x < 3 ∧ bst ok tg ln pc g k q x := by
    have key : ∀ N d, d ≤ N → Tg ok tg ln pc g (k + 1) q 0 d → ∃ d0, Tg ok tg ln pc g (k + 1) q 0 d0 ∧ ∀ d', Tg ok tg ln pc g (k + 1) q 0 d' → d0 ≤ d' := by
      intro N
      induction N with
      | zero => intro d hd hT; exact ⟨d, hT, fun d' _ => by omega⟩
      | succ N ih =>
        intro d hd hT
        by_cases z : ∃ d', d' ≤ N ∧ Tg ok tg ln pc g (k + 1) q 0 d'
        · obtain ⟨d', z1, z2⟩ := z
          exact ih d' z1 z2
        · exact ⟨d, hT, fun d' hd' => Nat.le_of_not_lt fun y => z ⟨d', by omega, hd'⟩⟩
    obtain ⟨d, hd⟩ := h
    obtain ⟨d0, h0, hm⟩ := key d d (Nat.le_refl _) hd
    obtain ⟨x, x1, x2⟩ := (BY_t hl hq).mp h0
    exact ⟨x, x1, d0, x2, hm⟩
  unfold fb
  by_cases z0 : bst ok tg ln pc g k q 0
  · rw [if_pos z0]; exact ⟨by omega, z0, fun y hy => absurd hy (Nat.not_lt_zero _)⟩
  · rw [if_neg z0]
    by_cases z1 : bst ok tg ln pc g k q 1
    · rw [if_pos z1]
      refine ⟨by omega, z1, fun y hy => ?_⟩
      obtain rfl : y = 0 := by omega
      exact z0
    · rw [if_neg z1]
      obtain ⟨x, x1, x2⟩ := ex
      have : x = 2 := by
        rcases (show x = 0 ∨ x = 1 ∨ x = 2 by omega) with rfl | rfl | rfl
        · exact absurd x2 z0
        · exact absurd x2 z1
        · rfl
      subst this
      refine ⟨by omega, x2, fun y hy => ?_⟩
      rcases (show y = 0 ∨ y = 1 by omega) with rfl | rfl
      · exact z0
      · exact z1
/-- the i-th code of the way from there, k steps being left -/
noncomputable def An (ok : Nat → Nat → Prop) (tg ln pc : Nat → Nat → Nat) (g : Nat) : Nat → Nat → Nat → Nat → Nat
  | 0, _, _, _ => 0
  | k + 1, q, b, 0 => if 0 < b then 0 else fb ok tg ln pc g k q
  | k + 1, q, b, i + 1 => if 0 < b then An ok tg ln pc g k q (b - 1) i else An ok tg ln pc g k (tg (fb ok tg ln pc g k q) q) (ln (fb ok tg ln pc g k q) q - 1) i
theorem An_b : ∀ b k q i, b ≤ k → An ok tg ln pc g k q b i = if i < b then 0 else An ok tg ln pc g (k - b) q 0 (i - b) := by
  intro b
  induction b with
  | zero => intro k q i _; rw [if_neg (by omega)]; rfl
  | succ b ih =>
    intro k q i hk
    obtain ⟨k, rfl⟩ : ∃ k', k = k' + 1 := ⟨k - 1, by omega⟩
    cases i with
    | zero => rw [if_pos (by omega)]; exact if_pos (by omega)
    | succ i =>
      have e : An ok tg ln pc g (k + 1) q (b + 1) (i + 1) = An ok tg ln pc g k q b i := if_pos (Nat.succ_pos b)
      rw [e, ih k q i (by omega), show k + 1 - (b + 1) = k - b by omega, show i + 1 - (b + 1) = i - b by omega]
      by_cases z : i < b
      · rw [if_pos z, if_pos (by omega)]
      · rw [if_neg z, if_neg (by omega)]
theorem An_s {k q i : Nat} : An ok tg ln pc g (k + 1) q 0 (i + 1) = An ok tg ln pc g k (tg (fb ok tg ln pc g k q) q) (ln (fb ok tg ln pc g k q) q - 1) i := if_neg (Nat.lt_irrefl 0)
/-- a best code's way goes on -/
theorem bst_n {k q x : Nat} (h : bst ok tg ln pc g k q x) : ok x q ∧ ∃ d, Tg ok tg ln pc g k (tg x q) (ln x q - 1) d := by
  obtain ⟨d, ⟨h1, d', h2, _⟩, _⟩ := h
  exact ⟨h1, d', h2⟩
/-- what a way has come to and what is to go -/
theorem Tg_pid {q0 b0 : Nat} : ∀ t k q b d d', Pid ok tg ln pc q0 b0 t q b d → Tg ok tg ln pc g k q b d' → Tg ok tg ln pc g (t + k) q0 b0 (d + d') := by
  intro t
  induction t with
  | zero =>
    rintro k q b d d' ⟨rfl, rfl, _, rfl⟩ h
    rw [Nat.zero_add, Nat.zero_add]
    exact h
  | succ t ih =>
    intro k q b d d' hp h
    obtain ⟨q1, b1, d1, e, p1, s, rfl⟩ := Pid_s.mp hp
    have := ih (k + 1) q1 b1 d1 (e + d') p1 (Tg_s.mpr ⟨q, b, e, d', s, h, rfl⟩)
    rw [show t + 1 + k = t + (k + 1) by omega, show d1 + e + d' = d1 + (e + d') by omega]
    exact this
end K91
