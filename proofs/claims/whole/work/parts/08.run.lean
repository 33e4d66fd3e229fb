/-! ===== what a run comes to, whatever it takes ===== -/
theorem am_mono : ∀ (n : Nat) (m : am_M) (pc : Nat) (σ : am_S) (r : am_R), am n m pc σ = some r → am (n + 1) m pc σ = some r := by
  intro n
  induction n with
  | zero => intro m pc σ r h; cases h
  | succ n ih =>
    intro m pc σ r h
    obtain ⟨L, S, ω⟩ := σ
    unfold am at h ⊢
    cases hc : am_code m.1 pc with
    | none => rw [hc] at h; cases h
    | some q =>
      obtain ⟨i, len⟩ := q
      rw [hc] at h
      dsimp only at h ⊢
      cases hs : am_st m i pc L S ω with
      | none => rw [hs] at h; cases h
      | some a =>
        rw [hs] at h
        rcases a with ⟨pc', σ'⟩ | r' | ⟨m', rk, as, pc', L', S', ω'⟩
        · exact ih _ _ _ _ h
        · exact h
        · dsimp only at h ⊢
          cases h1 : am n m' 0 (am_ent m'.1 as, [], ω') with
          | none => rw [h1] at h; cases h
          | some v =>
            obtain ⟨v, ω1⟩ := v
            rw [h1] at h
            rw [ih _ _ _ _ h1]
            dsimp only at h ⊢
            cases h2 : am_push rk v S' with
            | none => rw [h2] at h; cases h
            | some S1 =>
              rw [h2] at h
              exact ih _ _ _ _ h
theorem am_mono' {n k : Nat} {m : am_M} {pc : Nat} {σ : am_S} {r : am_R} (h : am n m pc σ = some r) (hk : n ≤ k) : am k m pc σ = some r := by
  induction hk with
  | refl => exact h
  | step _ ih => exact am_mono _ _ _ _ _ ih
theorem am_det {n k : Nat} {m : am_M} {pc : Nat} {σ : am_S} {r q : am_R} (h : am n m pc σ = some r) (h2 : am k m pc σ = some q) : r = q := by
  have a := am_mono' h (Nat.le_max_left n k)
  have b := am_mono' h2 (Nat.le_max_right n k)
  exact Option.some.inj (a.symm.trans b)
noncomputable def am_run (m : am_M) (pc : Nat) (σ : am_S) : Option am_R := by
  classical
  exact if h : ∃ (r : am_R) (n : Nat), am n m pc σ = some r then some (Classical.choose h) else none
theorem am_run_iff {m : am_M} {pc : Nat} {σ : am_S} {r : am_R} : am_run m pc σ = some r ↔ ∃ n, am n m pc σ = some r := by
  unfold am_run
  constructor
  · intro h
    split at h
    · next hx =>
      obtain ⟨n, hn⟩ := Classical.choose_spec hx
      exact ⟨n, hn.trans h⟩
    · cases h
  · intro h
    obtain ⟨n, hn⟩ := h
    have hx : ∃ (r : am_R) (n : Nat), am n m pc σ = some r := ⟨r, n, hn⟩
    rw [dif_pos hx]
    obtain ⟨k, hk⟩ := Classical.choose_spec hx
    exact congrArg some (am_det hk hn)
theorem am_go {m : am_M} {pc pc' : Nat} {L : am_L} {S : List am_V} {ω : am_W} {σ : am_S} {i : Instr} {len : Nat} (hc : am_code m.1 pc = some (i, len)) (hs : am_st m i pc L S ω = some (.inl (pc', σ))) : am_run m pc (L, S, ω) = am_run m pc' σ := by
  apply Option.ext
  intro r
  rw [am_run_iff, am_run_iff]
  constructor
  · rintro ⟨n, hn⟩
    cases n with
    | zero => cases hn
    | succ n =>
      unfold am at hn
      rw [hc] at hn
      dsimp only at hn
      rw [hs] at hn
      exact ⟨n, hn⟩
  · rintro ⟨n, hn⟩
    refine ⟨n + 1, ?_⟩
    unfold am
    rw [hc]
    dsimp only
    rw [hs]
    exact hn
theorem am_ret {m : am_M} {pc : Nat} {L : am_L} {S : List am_V} {ω : am_W} {r : am_R} {i : Instr} {len : Nat} (hc : am_code m.1 pc = some (i, len)) (hs : am_st m i pc L S ω = some (.inr (.inl r))) : am_run m pc (L, S, ω) = some r := by
  rw [am_run_iff]
  refine ⟨1, ?_⟩
  unfold am
  rw [hc]
  dsimp only
  rw [hs]
theorem am_stop {m : am_M} {pc : Nat} {L : am_L} {S : List am_V} {ω : am_W} {i : Instr} {len : Nat} (hc : am_code m.1 pc = some (i, len)) (hs : am_st m i pc L S ω = none) : am_run m pc (L, S, ω) = none := by
  cases h : am_run m pc (L, S, ω) with
  | none => rfl
  | some r =>
    obtain ⟨n, hn⟩ := am_run_iff.mp h
    cases n with
    | zero => cases hn
    | succ n =>
      unfold am at hn
      rw [hc] at hn
      dsimp only at hn
      rw [hs] at hn
      cases hn
theorem am_goc {m m' : am_M} {pc pc' rk : Nat} {L L' : am_L} {S S' : List am_V} {ω ω' : am_W} {as : List am_V} {i : Instr} {len : Nat} (hc : am_code m.1 pc = some (i, len)) (hs : am_st m i pc L S ω = some (.inr (.inr (m', rk, as, pc', L', S', ω')))) :
    am_run m pc (L, S, ω) = (am_run m' 0 (am_ent m'.1 as, [], ω')).bind (fun q => (am_push rk q.1 S').bind (fun S1 => am_run m pc' (L', S1, q.2))) := by
  apply Option.ext
  intro r
  rw [am_run_iff]
  constructor
  · rintro ⟨n, hn⟩
    cases n with
    | zero => cases hn
    | succ n =>
      unfold am at hn
      rw [hc] at hn
      dsimp only at hn
      rw [hs] at hn
      dsimp only at hn
      cases h1 : am n m' 0 (am_ent m'.1 as, [], ω') with
      | none => rw [h1] at hn; cases hn
      | some v =>
        obtain ⟨v, ω1⟩ := v
        rw [h1] at hn
        dsimp only at hn
        cases h2 : am_push rk v S' with
        | none => rw [h2] at hn; cases hn
        | some S1 =>
          rw [h2] at hn
          rw [am_run_iff.mpr ⟨n, h1⟩]
          show (am_push rk v S').bind _ = some r
          rw [h2]
          exact am_run_iff.mpr ⟨n, hn⟩
  · intro h
    cases h1 : am_run m' 0 (am_ent m'.1 as, [], ω') with
    | none => rw [h1] at h; cases h
    | some v =>
      obtain ⟨v, ω1⟩ := v
      rw [h1] at h
      have h : (am_push rk v S').bind (fun S1 => am_run m pc' (L', S1, ω1)) = some r := h
      cases h2 : am_push rk v S' with
      | none => rw [h2] at h; cases h
      | some S1 =>
        rw [h2] at h
        obtain ⟨k, hk⟩ := am_run_iff.mp h1
        obtain ⟨j, hj⟩ := am_run_iff.mp (show am_run m pc' (L', S1, ω1) = some r from h)
        refine ⟨max k j + 1, ?_⟩
        unfold am
        rw [hc]
        dsimp only
        rw [hs]
        dsimp only
        rw [am_mono' hk (Nat.le_max_left k j)]
        dsimp only
        rw [h2]
        exact am_mono' hj (Nat.le_max_right k j)
