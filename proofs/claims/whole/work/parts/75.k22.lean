/-! ===== steps in truth: who is hit ===== -/
section K22
variable {ω : am_W} {W : Int}
def sm (f : Nat → Int) : Nat → Int
  | 0 => 0
  | m + 1 => sm f m + f m
theorem sm_s {f : Nat → Int} {m : Nat} : sm f (m + 1) = sm f m + f m := rfl
theorem sm_c {f g : Nat → Int} {m : Nat} (h : ∀ x, x < m → f x = g x) : sm f m = sm g m := by
  induction m with
  | zero => rfl
  | succ m ih => rw [sm_s, sm_s, h m (by omega), ih (fun x hx => h x (by omega))]
theorem sm_add {f g : Nat → Int} {m : Nat} : sm (fun x => f x + g x) m = sm f m + sm g m := by
  induction m with
  | zero => rfl
  | succ m ih => rw [sm_s, sm_s, sm_s, ih]; omega
theorem sm_head {f : Nat → Int} {m : Nat} : sm f (m + 1) = f 0 + sm (fun x => f (x + 1)) m := by
  induction m with
  | zero => show (0 : Int) + f 0 = f 0 + 0; omega
  | succ m ih => rw [sm_s, ih, sm_s]; omega
theorem b01_le {p : Prop} : 0 ≤ b01 p ∧ b01 p ≤ 1 := by
  by_cases h : p
  · rw [b01_pos h]; omega
  · rw [b01_neg h]; omega
theorem sm_b {p : Nat → Prop} {m : Nat} : 0 ≤ sm (fun x => b01 (p x)) m ∧ sm (fun x => b01 (p x)) m ≤ (m : Int) := by
  induction m with
  | zero => exact ⟨Int.le_refl 0, Int.le_refl 0⟩
  | succ m ih => rw [sm_s]; have := b01_le (p := p m); omega
def hit (V : Nat → Nat → Int) (i j : Nat) : Prop := (V i 0 = 3 ∨ V j 0 = 3) ∧ fW (V i) (V j)
theorem hit_sy {V : Nat → Nat → Int} {i j : Nat} : hit V i j ↔ hit V j i := by
  unfold hit fW
  constructor
  · rintro ⟨a, b, c, d, e⟩; exact ⟨a.symm, c, b, d.symm, e.symm⟩
  · rintro ⟨a, b, c, d, e⟩; exact ⟨a.symm, c, b, d.symm, e.symm⟩
noncomputable def cHit (V : Nat → Nat → Int) (K : Nat) : Int := sm (fun i => sm (fun x => b01 (hit V i (i + 1 + x))) (K - 1 - i)) K
noncomputable def mHit (V : Nat → Nat → Int) (K : Nat) : Int := sm (fun s => sm (fun o => b01 (hit V s o)) s) K
theorem hits_eq {V : Nat → Nat → Int} {K : Nat} : cHit V K = mHit V K := by
  induction K with
  | zero => rfl
  | succ K ih =>
    have a1 : cHit V (K + 1) = sm (fun i => sm (fun x => b01 (hit V i (i + 1 + x))) (K - 1 - i) + b01 (hit V i K)) K := by
      unfold cHit
      rw [sm_s, show K + 1 - 1 - K = 0 by omega]
      show _ + (0 : Int) = _
      rw [Int.add_zero]
      refine sm_c (fun i hi => ?_)
      rw [show K + 1 - 1 - i = (K - 1 - i) + 1 by omega, sm_s, show i + 1 + (K - 1 - i) = K by omega]
    have a2 : mHit V (K + 1) = mHit V K + sm (fun o => b01 (hit V K o)) K := rfl
    rw [a1, sm_add, a2, ← ih]
    unfold cHit
    rw [sm_c (f := fun i => b01 (hit V i K)) (g := fun o => b01 (hit V K o)) (fun x _ => b01_c hit_sy)]
theorem c_ph_in (h : Bs ω) (hw : isW W) {K : Nat} (hK : ck ω W = (K : Int)) (h6 : K ≤ 6) {i : Nat} (hi : i < K) : ∀ d j, j + d = K → ∀ (c : Int) (o4 : Option am_V), 0 ≤ c → c + (d : Int) ≤ 1000 → ∃ o4', am_run (78, 0) 16 ([some (.inr (.inr W)), some (.inl c), some (.inl ((i : Int))), some (.inl ((j : Int))), o4], [], ω) = am_run (78, 0) 4 ([some (.inr (.inr W)), some (.inl (c + sm (fun x => b01 (hit (cV ω W) i (j + x))) d)), some (.inl (((i + 1 : Nat) : Int))), some (.inl ((K : Int))), o4'], [], ω) := by
  have hK' : am_get ω W.toNat 3 = (K : Int) := hK
  intro d
  induction d with
  | zero =>
    intro j hj c o4 h1 h2
    obtain rfl : j = K := by omega
    refine ⟨o4, ?_⟩
    rw [pX5_pairsHit_16 _ _ _ _ _ _ (w_is h hw), hK', if_pos (by omega), am_w_s (by omega) (by omega)]
    show _ = am_run (78, 0) 4 ([some (.inr (.inr W)), some (.inl (c + 0)), some (.inl (((i + 1 : Nat) : Int))), some (.inl ((j : Int))), o4], [], ω)
    rw [Int.add_zero, Int.natCast_succ]
  | succ d ih =>
    intro j hj c o4 h1 h2
    have eV := w_V h hw (i := i) (by omega)
    have eU := w_V h hw (i := j) (by omega)
    have iV := is_V h hw (i := i) (by omega)
    have jV := is_V h hw (i := j) (by omega)
    have iS := ina_S h hw (i := (i : Int)) (by omega) (by omega)
    have jS := ina_S h hw (i := (j : Int)) (by omega) (by omega)
    have r55 := fun s0 => pX5_pairsHit_55 W c i j s0 o4 ω (w_is h hw)
    simp only [w_S h hw, iS, jS, if_true, Int.toNat_natCast, eV, eU, iV, c_isWith iV jV, am_bi_s, am_w_s (z := (j : Int) + 1) (by omega) (by omega), am_w_s (z := c + 1) (by omega) (by omega)] at r55
    have q := pX5_pairsHit_16 W c i j o4 ω (w_is h hw)
    simp only [hK', if_neg (show ¬ (K : Int) ≤ (j : Int) by omega), w_S h hw, iS, jS, if_true, Int.toNat_natCast, eV, eU, iV, jV, pX5_pairsHit_50, r55] at q
    have step : ∃ s0, am_run (78, 0) 16 ([some (.inr (.inr W)), some (.inl c), some (.inl ((i : Int))), some (.inl ((j : Int))), o4], [], ω) = am_run (78, 0) 16 ([some (.inr (.inr W)), some (.inl (c + b01 (hit (cV ω W) i j))), some (.inl ((i : Int))), some (.inl ((j : Int) + 1)), s0], [], ω) := by
      rw [q]
      have v0 : am_get ω (W + 4 + (i : Int)).toNat = cV ω W i := rfl
      have u0 : am_get ω (W + 4 + (j : Int)).toNat = cV ω W j := rfl
      rw [v0, u0]
      by_cases gW : fW (cV ω W i) (cV ω W j)
      · rw [b01_pos gW]
        by_cases g1 : cV ω W i 0 = 3
        · rw [if_pos g1, if_neg (by omega), if_neg (by omega), b01_pos (show hit (cV ω W) i j from ⟨Or.inl g1, gW⟩)]; exact ⟨_, rfl⟩
        · rw [if_neg g1]
          by_cases g2 : cV ω W j 0 = 3
          · rw [if_neg (fun z => z g2), if_neg (by omega), if_neg (by omega), b01_pos (show hit (cV ω W) i j from ⟨Or.inr g2, gW⟩)]; exact ⟨_, rfl⟩
          · rw [if_pos g2, b01_neg (show ¬ hit (cV ω W) i j from fun z => z.1.elim g1 g2), Int.add_zero]; exact ⟨_, rfl⟩
      · rw [b01_neg gW, b01_neg (show ¬ hit (cV ω W) i j from fun z => gW z.2), Int.add_zero]
        by_cases g1 : cV ω W i 0 = 3
        · rw [if_pos g1, if_neg (by omega), if_pos rfl]; exact ⟨_, rfl⟩
        · rw [if_neg g1]
          by_cases g2 : cV ω W j 0 = 3
          · rw [if_neg (fun z => z g2), if_neg (by omega), if_pos rfl]; exact ⟨_, rfl⟩
          · rw [if_pos g2]; exact ⟨_, rfl⟩
    obtain ⟨s0, hs⟩ := step
    have bl := b01_le (p := hit (cV ω W) i j)
    obtain ⟨o', ho⟩ := ih (j + 1) (by omega) (c + b01 (hit (cV ω W) i j)) s0 (by omega) (by omega)
    refine ⟨o', ?_⟩
    rw [hs, show (j : Int) + 1 = ((j + 1 : Nat) : Int) by omega, ho, sm_head (m := d)]
    rw [sm_c (f := fun x => b01 (hit (cV ω W) i (j + 1 + x))) (g := fun x => b01 (hit (cV ω W) i (j + (x + 1)))) (fun x _ => by rw [show j + 1 + x = j + (x + 1) by omega])]
    rw [show j + 0 = j from rfl, Int.add_assoc]
theorem c_pairsHit (h : Bs ω) (hw : isW W) {K : Nat} (hK : ck ω W = (K : Int)) (h6 : K ≤ 6) : am_run (78, 0) 0 ([some (.inr (.inr W)), none, none, none, none], [], ω) = some (some (.inl (cHit (cV ω W) K)), ω) := by
  have hK' : am_get ω W.toNat 3 = (K : Int) := hK
  rw [pX5_pairsHit_0]
  have key : ∀ d i, i + d = K → ∀ (c : Int) (o3 o4 : Option am_V), 0 ≤ c → c + 6 * (d : Int) ≤ 900 → am_run (78, 0) 4 ([some (.inr (.inr W)), some (.inl c), some (.inl ((i : Int))), o3, o4], [], ω) = some (some (.inl (c + sm (fun y => sm (fun x => b01 (hit (cV ω W) (i + y) (i + y + 1 + x))) (K - 1 - (i + y))) d)), ω) := by
    intro d
    induction d with
    | zero =>
      intro i hi c o3 o4 h1 h2
      rw [pX5_pairsHit_4 _ _ _ _ _ _ (w_is h hw), hK', if_pos (by omega)]
      rw [show sm (fun y => sm (fun x => b01 (hit (cV ω W) (i + y) (i + y + 1 + x))) (K - 1 - (i + y))) 0 = 0 from rfl, Int.add_zero]
    | succ d ih =>
      intro i hi c o3 o4 h1 h2
      rw [pX5_pairsHit_4 _ _ _ _ _ _ (w_is h hw), hK', if_neg (by omega), am_w_s (by omega) (by omega), show (i : Int) + 1 = ((i + 1 : Nat) : Int) by omega]
      obtain ⟨o', ho⟩ := c_ph_in h hw hK h6 (i := i) (by omega) (K - 1 - i) (i + 1) (by omega) c o4 h1 (by omega)
      have sb := sm_b (p := fun x => hit (cV ω W) i (i + 1 + x)) (m := K - 1 - i)
      rw [ho, ih (i + 1) (by omega) _ _ _ (by omega) (by omega), sm_head (m := d)]
      rw [sm_c (f := fun y => sm (fun x => b01 (hit (cV ω W) (i + 1 + y) (i + 1 + y + 1 + x))) (K - 1 - (i + 1 + y))) (g := fun y => sm (fun x => b01 (hit (cV ω W) (i + (y + 1)) (i + (y + 1) + 1 + x))) (K - 1 - (i + (y + 1)))) (fun y _ => by rw [show i + 1 + y = i + (y + 1) by omega])]
      rw [Int.add_assoc]
      rfl
  rw [show (some (.inl 0) : Option am_V) = some (.inl ((0 : Nat) : Int)) from rfl]
  have := key K 0 (by omega) 0 none none (by omega) (by omega)
  rw [Int.zero_add] at this
  refine this.trans ?_
  unfold cHit
  simp only [Nat.zero_add]
end K22
