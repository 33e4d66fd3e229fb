/-! ===== the way: the least to go ===== -/
section K88
variable {ok : Nat → Nat → Prop} {tg ln pc : Nat → Nat → Nat} {g : Nat}
/-- v is the least of P, or F if there is none -/
def LT (P : Nat → Prop) (F v : Int) : Prop := (v = F ∧ ∀ d, ¬ P d) ∨ ∃ d : Nat, v = (d : Int) ∧ (d : Int) < F ∧ P d ∧ ∀ d', P d' → d ≤ d'
theorem LT_u {P : Nat → Prop} {F v v' : Int} (h : LT P F v) (h' : LT P F v') : v = v' := by
  rcases h with ⟨rfl, n⟩ | ⟨d, rfl, _, p, l⟩
  · rcases h' with ⟨rfl, _⟩ | ⟨d', _, _, p', _⟩
    · rfl
    · exact absurd p' (n d')
  · rcases h' with ⟨_, n⟩ | ⟨d', rfl, _, p', l'⟩
    · exact absurd p (n d)
    · have := l d' p'
      have := l' d p
      omega
theorem LT_c {P Q : Nat → Prop} {F v : Int} (e : ∀ d, P d ↔ Q d) (h : LT P F v) : LT Q F v := by
  rcases h with ⟨rfl, n⟩ | ⟨d, rfl, f, p, l⟩
  · exact Or.inl ⟨rfl, fun d z => n d ((e d).mpr z)⟩
  · exact Or.inr ⟨d, rfl, f, (e d).mp p, fun d' z => l d' ((e d').mpr z)⟩
/-- the less of two -/
theorem LT_or {P Q : Nat → Prop} {F v w : Int} (h : LT P F v) (h' : LT Q F w) : LT (fun d => P d ∨ Q d) F (mi2 v w) := by
  obtain ⟨m1, m2, m3⟩ := mi2_l (a := v) (b := w)
  rcases h with ⟨rfl, n⟩ | ⟨d, rfl, f, p, l⟩
  · rcases h' with ⟨rfl, n'⟩ | ⟨d', rfl, f', p', l'⟩
    · exact Or.inl ⟨by omega, fun d z => z.elim (n d) (n' d)⟩
    · exact Or.inr ⟨d', by omega, f', Or.inr p', fun d2 z => z.elim (fun y => absurd y (n d2)) (l' d2)⟩
  · rcases h' with ⟨rfl, n'⟩ | ⟨d', rfl, f', p', l'⟩
    · exact Or.inr ⟨d, by omega, f, Or.inl p, fun d2 z => z.elim (l d2) (fun y => absurd y (n' d2))⟩
    · by_cases c : d ≤ d'
      · exact Or.inr ⟨d, by omega, f, Or.inl p, fun d2 z => z.elim (l d2) (fun y => Nat.le_trans c (l' d2 y))⟩
      · exact Or.inr ⟨d', by omega, f', Or.inr p', fun d2 z => z.elim (fun y => Nat.le_trans (by omega) (l d2 y)) (l' d2)⟩
/-- one code's way, of those that it could be -/
theorem LT_by {P : Nat → Prop} {F v : Int} {c : Nat} (h : LT P F v) (b : ∀ d, P d → ((c + d : Nat) : Int) < F) (hF : 0 ≤ F) : LT (fun d => ∃ d', P d' ∧ d = c + d') F (mi2 F ((c : Int) + v)) := by
  obtain ⟨m1, m2, m3⟩ := mi2_l (a := F) (b := (c : Int) + v)
  rcases h with ⟨rfl, n⟩ | ⟨d, rfl, f, p, l⟩
  · exact Or.inl ⟨by omega, fun d z => by obtain ⟨d', z1, _⟩ := z; exact n d' z1⟩
  · have := b d p
    refine Or.inr ⟨c + d, by omega, this, ⟨d, p, rfl⟩, fun d2 z => ?_⟩
    obtain ⟨d', z1, rfl⟩ := z
    have := l d' z1
    omega
end K88
