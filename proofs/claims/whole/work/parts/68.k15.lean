/-! ===== ships have changed alike ===== -/
section K15
variable {ω ω' : am_W}
theorem inv_ships (h : Inv ω) (d : Dc ω ω') (e : ∀ a j, ¬ ((5 ≤ a ∧ a ≤ 10) ∨ (59 ≤ a ∧ a ≤ 63)) → am_get ω' a j = am_get ω a j) (e1 : ∀ i, i < 6 → ∀ f, f < 5 → am_get ω' (59 + f) i = am_get ω' (5 + i) f) (hO : ∀ i : Nat, (i : Int) < ck ω 1 → O_ship (cn ω 1) (cT ω 1) (am_get ω' (5 + i))) : Inv ω' := by
  refine inv_kp (fun a _ => (5 ≤ a ∧ a ≤ 10) ∨ (59 ≤ a ∧ a ≤ 63)) h d e (Or.inr ?_) (Or.inr ?_) (Or.inl (fun a k s b => by unfold S_tape at s; omega)) (Or.inl (fun a k s b => by unfold S_shelf at s; omega)) (Or.inl (fun a k s b => by unfold S_ref at s; omega)) (Or.inl (fun a k s b => by unfold S_img at s; omega))
  · obtain ⟨q1, q2, q3, q4, q5, q6, q7, q8⟩ := h.2.1
    unfold am_get at e e1
    refine ⟨e1, fun j hj => ?_, fun j hj => ?_, ?_, ?_, ?_, ?_, ?_⟩
    · rw [e _ _ (by omega), e _ _ (by omega)]; exact q2 j hj
    · rw [e _ _ (by omega), e _ _ (by omega)]; exact q3 j hj
    all_goals (rw [e _ _ (by omega), e _ _ (by omega)]; assumption)
  · obtain ⟨q1, q2, q3, q4, q5, q6⟩ := h.2.2.1
    unfold am_get at e
    have eT : ω'.2.1 (1 + 1) = ω.2.1 (1 + 1) := funext fun j => e _ _ (by omega)
    unfold O_sky
    rw [e 1 0 (by omega), e 1 3 (by omega), e 1 6 (by omega), eT]
    refine ⟨q1, q2, q3, fun j hj => by rw [e _ _ (by omega)]; exact q4 j hj, fun i hi => ?_, q6⟩
    have := hO i hi
    rw [show 5 + i = 1 + 4 + i by omega] at this
    exact this
theorem put_comm {a k a' k' : Nat} {v v' : Int} (h : a ≠ a') : am_put (am_put ω a k v) a' k' v' = am_put (am_put ω a' k' v') a k v := by
  unfold am_put
  congr 1
  congr 1
  funext x y
  show (if x = a' ∧ y = k' then v' else if x = a ∧ y = k then v else ω.2.1 x y) = if x = a ∧ y = k then v else if x = a' ∧ y = k' then v' else ω.2.1 x y
  by_cases g1 : x = a' ∧ y = k'
  · rw [if_pos g1, if_neg (by omega), if_pos g1]
  · rw [if_neg g1]
    by_cases g2 : x = a ∧ y = k
    · rw [if_pos g2, if_pos g2]
    · rw [if_neg g2, if_neg g2, if_neg g1]
end K15
