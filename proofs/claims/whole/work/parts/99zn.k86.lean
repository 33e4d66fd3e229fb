/-! ===== the way: what is to go ===== -/
section K86
variable {ok : Nat → Nat → Prop} {tg ln pc : Nat → Nat → Nat} {g : Nat}
/-- from spot q, busy for b steps, it is at rest at g behind k steps, for d drops -/
def Tg (ok : Nat → Nat → Prop) (tg ln pc : Nat → Nat → Nat) (g : Nat) : Nat → Nat → Nat → Nat → Prop
  | 0, q, b, d => q = g ∧ b = 0 ∧ d = 0
  | k + 1, q, b, d => ∃ q' b' e d', Sp1 ok tg ln pc q b q' b' e ∧ Tg ok tg ln pc g k q' b' d' ∧ d = e + d'
theorem Tg_s {k q b d : Nat} : Tg ok tg ln pc g (k + 1) q b d ↔ ∃ q' b' e d', Sp1 ok tg ln pc q b q' b' e ∧ Tg ok tg ln pc g k q' b' d' ∧ d = e + d' := Iff.rfl
/-- as long as it is busy nothing else can be -/
theorem Tg_b : ∀ b k q d, Tg ok tg ln pc g k q b d ↔ b ≤ k ∧ Tg ok tg ln pc g (k - b) q 0 d := by
  intro b
  induction b with
  | zero => intro k q d; exact ⟨fun h => ⟨by omega, h⟩, fun h => h.2⟩
  | succ b ih =>
    intro k q d
    cases k with
    | zero =>
      constructor
      · rintro ⟨_, h, _⟩; omega
      · rintro ⟨h, _⟩; omega
    | succ k =>
      rw [Tg_s]
      constructor
      · rintro ⟨q', b', e, d', ⟨s1, rfl, s3, rfl⟩ | ⟨s1, _⟩, h2, h3⟩
        · obtain rfl : b' = b := by omega
          obtain ⟨x1, x2⟩ := (ih k q' d').mp h2
          refine ⟨by omega, ?_⟩
          rw [show k + 1 - (b' + 1) = k - b' by omega, h3, Nat.zero_add]
          exact x2
        · omega
      · rintro ⟨x1, x2⟩
        rw [show k + 1 - (b + 1) = k - b by omega] at x2
        exact ⟨q, b, 0, d, Or.inl ⟨by omega, rfl, rfl, rfl⟩, (ih k q d).mpr ⟨by omega, x2⟩, (Nat.zero_add d).symm⟩
/-- at rest: by one of the codes -/
theorem Tg_x (hl : ∀ x q, x < 3 → ok x q → 1 ≤ ln x q) {k q d : Nat} : Tg ok tg ln pc g (k + 1) q 0 d ↔ ∃ x d', x < 3 ∧ ok x q ∧ ln x q ≤ k + 1 ∧ Tg ok tg ln pc g (k + 1 - ln x q) (tg x q) 0 d' ∧ d = pc x q + d' := by
  rw [Tg_s]
  constructor
  · rintro ⟨q', b', e, d', ⟨s1, _⟩ | ⟨_, x, x1, x2, rfl, x4, rfl⟩, h2, h3⟩
    · omega
    · obtain ⟨y1, y2⟩ := (Tg_b b' k _ d').mp h2
      refine ⟨x, d', x1, x2, by omega, ?_, h3⟩
      rw [show k + 1 - ln x q = k - b' by omega]
      exact y2
  · rintro ⟨x, d', x1, x2, x3, x4, x5⟩
    have l1 := hl x q x1 x2
    refine ⟨tg x q, ln x q - 1, pc x q, d', Or.inr ⟨rfl, x, x1, x2, rfl, by omega, rfl⟩, (Tg_b _ k _ d').mpr ⟨by omega, ?_⟩, x5⟩
    rw [show k - (ln x q - 1) = k + 1 - ln x q by omega]
    exact x4
end K86
