/-! ===== the first world is good ===== -/
section K80
def m0 : Nat → Nat → Int := (wF o0).2.1
theorem f_rf : ∀ q ∈ rf_0, m0 q.1 q.2.1 = q.2.2 := by decide +kernel
theorem f_sky1 : ∀ i, i < 6 → ∀ f, f < 5 → m0 (59 + f) i = m0 (5 + i) f := by decide +kernel
theorem f_sky2 : (∀ j, j < 6 → m0 57 j = m0 2 j) ∧ (∀ j, j < 5 → m0 58 j = m0 3 j) := by decide +kernel
theorem f_sky3 : m0 53 3 = m0 1 0 ∧ m0 53 6 = m0 1 3 ∧ m0 53 12 = m0 1 5 ∧ m0 53 13 = m0 1 6 ∧ m0 53 14 = m0 1 7 := by decide +kernel
theorem f_osky : (2 ≤ m0 1 0 ∧ m0 1 0 ≤ 6) ∧ (0 ≤ m0 1 3 ∧ m0 1 3 ≤ 6) ∧ (∀ j, j < 6 → 2 ≤ m0 (1 + 1) j ∧ m0 (1 + 1) j ≤ 20) ∧ (∀ j, j < 5 → 1 ≤ m0 (1 + 2) j ∧ m0 (1 + 2) j ≤ 9) ∧ m0 1 3 = 0 ∧ m0 1 6 = 0 := by decide +kernel
theorem f_tape : m0 53 15 = m0 21 1 ∧ (0 ≤ m0 21 1 ∧ m0 21 1 ≤ 250) ∧ ∀ j, j < 250 → m0 64 j = m0 22 j := by decide +kernel
theorem f_shelf : ∀ s, s < 8 → m0 54 s = m0 (37 + 2 * s) 0 ∧ (∀ j, j < 40 → m0 56 (40 * s + j) = m0 (38 + 2 * s) j) ∧ m0 (37 + 2 * s) 0 = -1 := by decide +kernel
theorem f_ref : ∀ k, k < 5 → m0 65 (k + 2) = m0 34 k := by decide +kernel
theorem f_img : m0 53 22 = m0 0 2 ∧ m0 0 2 = 0 := by decide +kernel
theorem f_ext : m0 0 8 = -1 ∧ m0 0 9 = -1 := by decide +kernel
theorem inv_0 : Inv (wF o0) := by
  refine ⟨⟨by rw [wF_1]; exact List.prefix_refl _, f_rf⟩, ⟨f_sky1, f_sky2.1, f_sky2.2, f_sky3⟩, ⟨f_osky.1, f_osky.2.1, f_osky.2.2.1, f_osky.2.2.2.1, fun i hi => ?_, ?_⟩, f_tape, fun s hs => ⟨(f_shelf s hs).1, (f_shelf s hs).2.1, Or.inl (f_shelf s hs).2.2⟩, f_ref, ⟨f_img.1, Or.inl f_img.2⟩, Or.inl ⟨wF_1, f_ext.1, f_ext.2⟩⟩
  · have e := f_osky.2.2.2.2.1
    have hi' : (i : Int) < m0 1 3 := hi
    omega
  · have e := f_osky.2.2.2.2.2
    show am_R32 (m0 1 6)
    rw [e]
    exact ⟨by omega, by omega⟩
end K80
