/-! ===== of what kind an answer is ===== -/
section K82
def RKd (rt : Nat) (v : Option am_V) : Prop := match v with
  | none => rt = 0
  | some (.inl z) => am_nar rt z = true
  | some (.inr (.inl _)) => rt = 2
  | some (.inr (.inr _)) => rt = 3
theorem am_kind : ∀ (n : Nat) (m : am_M) (pc : Nat) (σ : am_S) (v : Option am_V) (ω1 : am_W), m.1 ≤ 240 → am n m pc σ = some (v, ω1) → RKd (am_rt m.1) v := by
  intro n
  induction n with
  | zero => intro m pc σ v ω1 _ h; cases h
  | succ n ih =>
    intro m pc σ v ω1 hm h
    obtain ⟨L, S, ω⟩ := σ
    unfold am at h
    cases hc : am_code m.1 pc with
    | none => rw [hc] at h; cases h
    | some q =>
      obtain ⟨i, len⟩ := q
      rw [hc] at h
      dsimp only at h
      cases hs : am_st m i pc L S ω with
      | none => rw [hs] at h; cases h
      | some a =>
        rw [hs] at h
        rcases a with ⟨pc', σ'⟩ | r' | ⟨m', rk, as, pc', L', S', ω'⟩
        · exact ih _ _ _ _ _ hm h
        · obtain ⟨v', ω'⟩ := r'
          have e : (v', ω') = (v, ω1) := Option.some.inj h
          injection e with e1 e2
          subst e1
          have := (am_step_R hm hc hs).2.2
          unfold am_rd at this
          unfold RKd
          rcases v' with _ | z | z | z
          · exact this.2
          · exact this.2
          · exact this.2
          · exact this.2.1
        · dsimp only at h
          cases h1 : am n m' 0 (am_ent m'.1 as, [], ω') with
          | none => rw [h1] at h; cases h
          | some v2 =>
            obtain ⟨v2, ω2⟩ := v2
            rw [h1] at h
            dsimp only at h
            cases h2 : am_push rk v2 S' with
            | none => rw [h2] at h; cases h
            | some S1 =>
              rw [h2] at h
              exact ih _ _ _ _ _ hm h
theorem run_int {b pc : Nat} {σ : am_S} {z : am_V} {ω1 : am_W} (hb : b ≤ 240) (hr : am_rt b = 1) (h : am_run (b, 0) pc σ = some (some z, ω1)) : ∃ x : Int, z = .inl x := by
  obtain ⟨n, hn⟩ := am_run_iff.mp h
  have := am_kind n (b, 0) pc σ (some z) ω1 hb hn
  unfold RKd at this
  rcases z with z | z | z
  · exact ⟨z, rfl⟩
  · have e : am_rt b = 2 := this
    omega
  · have e : am_rt b = 3 := this
    omega
theorem run_long {b pc : Nat} {σ : am_S} {z : am_V} {ω1 : am_W} (hb : b ≤ 240) (hr : am_rt b = 2) (h : am_run (b, 0) pc σ = some (some z, ω1)) : ∃ x : Int, z = .inr (.inl x) := by
  obtain ⟨n, hn⟩ := am_run_iff.mp h
  have := am_kind n (b, 0) pc σ (some z) ω1 hb hn
  unfold RKd at this
  rcases z with z | z | z
  · have e : am_nar (am_rt b) z = true := this
    rw [hr] at e
    cases e
  · exact ⟨z, rfl⟩
  · have e : am_rt b = 3 := this
    omega
end K82
