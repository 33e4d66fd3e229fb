/-! ===== the law's loop ===== -/
section K85
/-- the cases that are left -/
def Left3 : Prop := ∀ (ω : am_W) (i : Nat), Inv ω → i + 6 ≤ ω.2.2.1 → ω.2.2.1 ≤ 3072 → (∀ j, am_R32 (ω.2.2.2 j)) → LC 737 i ω ∧ LC 1150 i ω ∧ LC 1385 i ω
def PE (r : Option am_R) : Prop := ∃ ω1, r = some (some (.inl 1), ω1) ∧ Inv ω1
theorem ite_P {c : Prop} [Decidable c] {a b : Option am_R} (h1 : c → PE a) (h2 : ¬ c → PE b) : PE (if c then a else b) := by
  by_cases g : c
  · rw [if_pos g]; exact h1 g
  · rw [if_neg g]; exact h2 g
theorem law_loop (left : Left3) {n : Nat} (hn : n ≤ 3072) : ∀ k i : Nat, n - i ≤ k → ∀ ω : am_W, Inv ω → ω.2.2.1 = n → (∀ j, am_R32 (ω.2.2.2 j)) → i ≤ 4000 → PE (am_run (240, 0) 18 ([some (.inr (.inr ((-2)))), some (.inr (.inr 0)), some (.inr (.inr 53)), some (.inl ((i : Int)))], [], ω)) := by
  intro k
  induction k with
  | zero =>
    intro i hk ω h e hr hi
    rw [pL_law_18, e, am_w_s (by omega) (by omega), if_pos (by omega)]
    exact ⟨ω, rfl, h⟩
  | succ k ih =>
    intro i hk ω h e hr hi
    rw [pL_law_18, e, am_w_s (by omega) (by omega)]
    refine ite_P (fun _ => ⟨ω, rfl, h⟩) (fun g => ?_)
    have i6 : i + 6 ≤ n := by omega
    rw [if_pos (lb (show i < n by omega))]
    have i6' : i + 6 ≤ ω.2.2.1 := by rw [e]; exact i6
    have hl : ω.2.2.1 ≤ 3072 := by rw [e]; exact hn
    obtain ⟨x1, x2, x3⟩ := left ω i h i6' hl hr
    have go : ∀ pc, LC pc i ω → PE (am_run (240, 0) pc ([some (.inr (.inr (-2))), some (.inr (.inr 0)), some (.inr (.inr 53)), some (.inl (i : Int))], [], ω)) := by
      rintro pc ⟨ω', q, I, s⟩
      rw [q]
      exact ih (i + 6) (by omega) ω' I (by rw [s]; exact e) (by rw [s]; exact hr) (by omega)
    refine ite_P (fun _ => go 224 (lc_224 h i6' hl hr)) (fun _ => ?_)
    refine ite_P (fun _ => go 267 (lc_267 h i6' hl hr)) (fun _ => ?_)
    refine ite_P (fun _ => go 340 (lc_340 h i6' hl hr)) (fun _ => ?_)
    refine ite_P (fun _ => go 403 (lc_403 h i6' hl hr)) (fun _ => ?_)
    refine ite_P (fun _ => go 437 (lc_437 h i6' hl hr)) (fun _ => ?_)
    refine ite_P (fun _ => go 460 (lc_460 h i6' hl hr)) (fun _ => ?_)
    refine ite_P (fun _ => go 493 (lc_493 h i6' hl hr)) (fun _ => ?_)
    refine ite_P (fun _ => go 526 (lc_526 h i6' hl hr)) (fun _ => ?_)
    refine ite_P (fun _ => go 549 (lc_549 h i6' hl hr)) (fun _ => ?_)
    refine ite_P (fun _ => go 582 (lc_582 h i6' hl hr)) (fun _ => ?_)
    refine ite_P (fun _ => go 615 (lc_615 h i6' hl hr)) (fun _ => ?_)
    refine ite_P (fun _ => go 668 (lc_668 h i6' hl hr)) (fun _ => ?_)
    refine ite_P (fun _ => go 701 (lc_701 h i6' hl hr)) (fun _ => ?_)
    refine ite_P (fun _ => go 724 (lc_724 h i6' hl hr)) (fun _ => ?_)
    refine ite_P (fun _ => go 737 x1) (fun _ => ?_)
    refine ite_P (fun _ => go 750 (lc_750 h i6' hl hr)) (fun _ => ?_)
    refine ite_P (fun _ => go 783 (lc_783 h i6' hl hr)) (fun _ => ?_)
    refine ite_P (fun _ => go 816 (lc_816 h i6' hl hr)) (fun _ => ?_)
    refine ite_P (fun _ => go 849 (lc_849 h i6' hl hr)) (fun _ => ?_)
    refine ite_P (fun _ => go 892 (lc_892 h i6' hl hr)) (fun _ => ?_)
    refine ite_P (fun _ => go 925 (lc_925 h i6' hl hr)) (fun _ => ?_)
    refine ite_P (fun _ => go 968 (lc_968 h i6' hl hr)) (fun _ => ?_)
    refine ite_P (fun _ => go 1021 (lc_1021 h i6' hl hr)) (fun _ => ?_)
    refine ite_P (fun _ => go 1074 (lc_1074 h i6' hl hr)) (fun _ => ?_)
    refine ite_P (fun _ => go 1117 (lc_1117 h i6' hl hr)) (fun _ => ?_)
    refine ite_P (fun _ => go 1150 x2) (fun _ => ?_)
    refine ite_P (fun _ => go 1193 (lc_1193 h i6' hl hr)) (fun _ => ?_)
    refine ite_P (fun _ => go 1236 (lc_1236 h i6' hl hr)) (fun _ => ?_)
    refine ite_P (fun _ => go 1269 (lc_1269 h i6' hl hr)) (fun _ => ?_)
    refine ite_P (fun _ => go 1283 (lc_1283 h i6' hl hr)) (fun _ => ?_)
    refine ite_P (fun _ => go 1316 (lc_1316 h i6' hl hr)) (fun _ => ?_)
    refine ite_P (fun _ => go 1349 (lc_1349 h i6' hl hr)) (fun _ => ?_)
    refine ite_P (fun _ => go 1362 (lc_1362 h i6' hl hr)) (fun _ => ?_)
    refine ite_P (fun _ => go 1385 x3) (fun _ => ?_)
    refine ite_P (fun _ => go 1428 (lc_1428 h i6' hl hr)) (fun _ => ?_)
    refine ite_P (fun _ => go 1471 (lc_1471 h i6' hl hr)) (fun _ => ?_)
    refine ite_P (fun _ => go 1494 (lc_1494 h i6' hl hr)) (fun _ => ?_)
    refine ite_P (fun _ => go 1527 (lc_1527 h i6' hl hr)) (fun _ => ?_)
    refine ite_P (fun _ => go 1570 (lc_1570 h i6' hl hr)) (fun _ => ?_)
    refine ite_P (fun _ => go 1613 (lc_1613 h i6' hl hr)) (fun _ => ?_)
    refine ite_P (fun _ => go 1636 (lc_1636 h i6' hl hr)) (fun _ => ?_)
    refine ite_P (fun _ => go 1659 (lc_1659 h i6' hl hr)) (fun _ => ?_)
    refine ite_P (fun _ => go 1672 (lc_1672 h i6' hl hr)) (fun _ => ?_)
    refine ite_P (fun _ => go 1685 (lc_1685 h i6' hl hr)) (fun _ => ?_)
    refine go 1708 ⟨ω, ?_, h, rfl⟩
    rw [pL_law_1708, (lw i6 hn ()).2.2.2.2.2]
theorem pure_of (left : Left3) : am_Pure := by
  intro sc hs hr
  obtain ⟨ω1, q, I⟩ := law_loop left hs sc.1 0 (by omega) (sS (wF o0) sc) inv_first rfl hr (by omega)
  refine ⟨ω1, (law_0 (sc := sc)).trans q, ?_⟩
  have c : ∀ X ∈ [sh_0, sh_0 ++ sh_P, sh_0 ++ sh_C, sh_0 ++ (sh_P ++ sh_C), sh_0 ++ (sh_C ++ sh_P)], X.length ≤ 600000 ∧ am_sl X ≤ 7302250 := by decide +kernel
  rcases I.2.2.2.2.2.2.2 with ⟨x, _⟩ | ⟨x, _⟩ | ⟨x, _⟩ | ⟨x, _⟩ | ⟨x, _⟩
  · rw [x]; exact c _ (by simp)
  · rw [x]; exact c _ (by simp)
  · rw [x]; exact c _ (by simp)
  · rw [x]; exact c _ (by simp)
  · rw [x]; exact c _ (by simp)
end K85
