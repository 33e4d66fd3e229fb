/-! ===== round: the model's numbers with those that are met ===== -/
section K70
theorem sub_or {a b x k : Nat} (h : a ||| b = b) : a ||| (b ||| x) = b ||| x := by
  rw [← Nat.or_assoc, h]
theorem sub_or2 {a b x : Nat} (h : a ||| (b ||| x) = b ||| x) : (a ||| x) ||| (b ||| x) = b ||| x := by
  have e : (a ||| x) ||| (b ||| x) = (a ||| (b ||| x)) ||| x := by
    rw [Nat.or_assoc, Nat.or_assoc, Nat.or_comm x (b ||| x)]
  rw [e, h, Nat.or_assoc, Nat.or_self]
theorem sub_eq {W x : Nat} (h : W ||| x = x) (l : x ≤ W) : x = W := by
  have : W ≤ W ||| x := Nat.left_le_or
  omega
section RN
variable (n : Int) (T C : Nat → Int) (K : Int) (V : Nat → Nat → Int) (mem : Nat → Nat) (M q0 b0 : Nat)
/-- those that are met, k of the members being looked at -/
noncomputable def mtk (k t q b m : Nat) : Nat := if b = 0 then orN (fun j => spF T (V (mem j)) (t : Int) = (q : Int)) k m else m
abbrev PhF (t q b m d : Nat) : Prop := Pth (cok n C K) (ctg T) (cln T) (cpc n C K) (hrF T V mem M) q0 b0 t q b m d
def RNS (ω : am_W) (t k : Nat) : Prop := ∀ q b m, q < 120 → b ≤ 10 → m < 8 → am_get ω 68 (stI q b m) = 10000 ∨ ∃ d m' : Nat, am_get ω 68 (stI q b m) = (d : Int) ∧ PhF n T C K V mem M q0 b0 t q b m' d ∧ m ||| mtk T V mem k t q b m' = mtk T V mem k t q b m'
def RNC (ω : am_W) (t k : Nat) : Prop := ∀ q b m' d, PhF n T C K V mem M q0 b0 t q b m' d → am_get ω 68 (stI q b (mtk T V mem k t q b m')) ≤ (d : Int)
end RN
section RP
variable {n : Int} {T C : Nat → Int} {K : Int} {V : Nat → Nat → Int} {mem : Nat → Nat} {M q0 b0 : Nat} {ω ω' : am_W} {t : Nat}
theorem mt_0 {t q b m : Nat} : mtk T V mem 0 t q b m = m := by
  unfold mtk
  by_cases g : b = 0
  · rw [if_pos g]; rfl
  · rw [if_neg g]
theorem mt_y {k t q m : Nat} (h : spF T (V (mem k)) (t : Int) = (q : Int)) : mtk T V mem (k + 1) t q 0 m = mtk T V mem k t q 0 m ||| 2 ^ k := by
  unfold mtk
  rw [if_pos rfl, if_pos rfl]
  exact orN_y h
theorem mt_n {k t q b m : Nat} (h : ¬ (b = 0 ∧ spF T (V (mem k)) (t : Int) = (q : Int))) : mtk T V mem (k + 1) t q b m = mtk T V mem k t q b m := by
  unfold mtk
  by_cases g : b = 0
  · rw [if_pos g, if_pos g]
    exact orN_n (fun z => h ⟨g, z⟩)
  · rw [if_neg g, if_neg g]
theorem mt_8 {k t q b m : Nat} (hm : m < 8) (hk : k ≤ 3) : mtk T V mem k t q b m < 8 := by
  unfold mtk
  by_cases g : b = 0
  · rw [if_pos g]; exact orN_8 hm k hk
  · rw [if_neg g]; exact hm
theorem ph_v (hc : Cht (cvd n T) (cok n C K) (ctg T) (cln T) (cpc n C K)) (hv : cvd n T q0) (hb : b0 ≤ 10) (hM : M ≤ 3) {q b m d : Nat} (h : PhF n T C K V mem M q0 b0 t q b m d) : cvd n T q ∧ b ≤ 10 ∧ d ≤ 9 * t ∧ m ≤ wh M ∧ m < 8 := by
  obtain ⟨h1, h2, h3⟩ := P_v hc hv hb _ _ _ _ _ h
  have h4 := P_m (W := wh M) hrF_w _ _ _ _ _ h
  have := (wh_7 hM).2
  exact ⟨h1, h2, h3, h4, by omega⟩
theorem rn_rg (hc : Cht (cvd n T) (cok n C K) (ctg T) (cln T) (cpc n C K)) (hv : cvd n T q0) (hb : b0 ≤ 10) (hM : M ≤ 3) (ht : t ≤ 60) {k : Nat} (S : RNS n T C K V mem M q0 b0 ω t k) : Rg n T ω := by
  intro q b m hq hb' hm
  rcases S q b m (hc q hq).1 hb' hm with z | ⟨d, m', z1, z2, _⟩
  · exact Or.inl z
  · exact Or.inr ⟨d, by have := (ph_v hc hv hb hM z2).2.2.1; omega, z1⟩
theorem rn_0 (h : NI ω n T C K q0 b0 0) : RNS n T C K V mem M q0 b0 ω 0 0 ∧ RNC n T C K V mem M q0 b0 ω 0 0 := by
  refine ⟨fun q b m hq hb hm => ?_, fun q b m' d hp => ?_⟩
  · rcases h.1 q b m hq hb hm with z | ⟨d, z1, z2, z3⟩
    · exact Or.inl z
    · obtain ⟨x1, x2, _, x4⟩ := z3
      refine Or.inr ⟨d, 0, z1, ⟨x1, x2, rfl, x4⟩, ?_⟩
      rw [mt_0, z2]; rfl
  · rw [mt_0]
    obtain ⟨x1, x2, x3, x4⟩ := hp
    rw [x3]
    exact h.2 q b d ⟨x1, x2, rfl, x4⟩
theorem rn_s (hc : Cht (cvd n T) (cok n C K) (ctg T) (cln T) (cpc n C K)) (hv : cvd n T q0) (hb : b0 ≤ 10) (hM : M ≤ 3) (ht : t ≤ 60) (S : RNS n T C K V mem M q0 b0 ω t M) (Cc : RNC n T C K V mem M q0 b0 ω t M) (g : NG n T C K ω ω') : RNS n T C K V mem M q0 b0 ω' (t + 1) 0 ∧ RNC n T C K V mem M q0 b0 ω' (t + 1) 0 := by
  refine ⟨fun q' b' m hq' hb' hm => ?_, fun q' b' m'' d'' hp => ?_⟩
  · rcases g.1 q' b' m hq' hb' hm with z | ⟨q, b, e, d, y1, y2, y3, y4, y5, y6⟩
    · exact Or.inl z
    · rcases S q b m (hc q y1).1 y2 hm with z | ⟨d2, m', z1, z2, z3⟩
      · rw [z] at y3; omega
      · have : d2 = d := by omega
        subst this
        rcases y5 with ⟨s1, s2, s3, s4⟩ | ⟨s1, x, s2, s3, s4, s5, s6⟩
        · refine Or.inr ⟨d2 + e, m', y6, P_s.mpr ⟨q, b, m', d2, z2, Or.inl ⟨s1, s2, s3, rfl, by omega⟩⟩, ?_⟩
          rw [mt_0]
          unfold mtk at z3
          rw [if_neg (by omega)] at z3
          exact z3
        · refine Or.inr ⟨d2 + e, hrF T V mem M t q m', y6, P_s.mpr ⟨q, b, m', d2, z2, Or.inr ⟨s1, x, s2, s3, s4, s5, rfl, by omega⟩⟩, ?_⟩
          rw [mt_0]
          unfold mtk at z3
          rw [if_pos s1] at z3
          exact z3
  · rw [mt_0]
    obtain ⟨q, b, m', d, h1, h2⟩ := P_s.mp hp
    obtain ⟨v1, v2, v3, v4, v5⟩ := ph_v hc hv hb hM h1
    have A := Cc q b m' d h1
    have m8 := mt_8 (T := T) (V := V) (mem := mem) (t := t) (q := q) (b := b) v5 hM
    have go : ∀ e, Sp1 (cok n C K) (ctg T) (cln T) (cpc n C K) q b q' b' e → am_get ω' 68 (stI q' b' (mtk T V mem M t q b m')) ≤ ((d + e : Nat) : Int) := by
      intro e s
      rcases S q b (mtk T V mem M t q b m') (hc q v1).1 v2 m8 with z | ⟨d2, _, z1, _, _⟩
      · rw [z] at A; omega
      · rw [z1] at A
        have := g.2 q b _ v1 v2 m8 d2 z1 (by omega) q' b' e s
        omega
    rcases h2 with ⟨s1, s2, s3, s4, s5⟩ | ⟨s1, x, s2, s3, s4, s5, s6, s7⟩
    · have := go 0 (Or.inl ⟨s1, s2, s3, rfl⟩)
      have e : mtk T V mem M t q b m' = m' := by unfold mtk; rw [if_neg (by omega)]
      rw [e] at this
      rw [s4, s5]
      exact this
    · have := go (cpc n C K x q) (Or.inr ⟨s1, x, s2, s3, s4, s5, rfl⟩)
      have e : mtk T V mem M t q b m' = hrF T V mem M t q m' := by unfold mtk; rw [if_pos s1]; rfl
      rw [e] at this
      rw [s6, s7]
      exact this
/-- the members so far, none is looked at there -/
theorem rn_up {k : Nat} (S : RNS n T C K V mem M q0 b0 ω t k) : RNS n T C K V mem M q0 b0 ω t (k + 1) := by
  intro q b m hq hb hm
  rcases S q b m hq hb hm with z | ⟨d, m', z1, z2, z3⟩
  · exact Or.inl z
  · refine Or.inr ⟨d, m', z1, z2, ?_⟩
    by_cases g : b = 0 ∧ spF T (V (mem k)) (t : Int) = (q : Int)
    · obtain ⟨rfl, g2⟩ := g
      rw [mt_y g2]
      exact sub_or (k := 0) z3
    · rw [mt_n g]; exact z3
end RP
end K70
