/-! ===== the way: the least to go, by the codes ===== -/
section K89
variable {vd : Nat → Prop} {ok : Nat → Nat → Prop} {tg ln pc : Nat → Nat → Nat} {g : Nat}
theorem Tg_bd (hc : Cht vd ok tg ln pc) : ∀ k q b d, vd q → b ≤ 10 → Tg ok tg ln pc g k q b d → d ≤ 9 * k := by
  intro k
  induction k with
  | zero => rintro q b d _ _ ⟨_, _, rfl⟩; omega
  | succ k ih =>
    intro q b d hq hb h
    obtain ⟨q', b', e, d', s, h2, rfl⟩ := Tg_s.mp h
    obtain ⟨v1, v2, v3⟩ := Sp1_b hc hq hb s
    have := ih q' b' d' v1 v2 h2
    omega
/-- a table of what is to go, from step lo on -/
def TB (vd : Nat → Prop) (ok : Nat → Nat → Prop) (tg ln pc : Nat → Nat → Nat) (g G lo : Nat) (R : Nat → Int) : Prop := ∀ t q, lo ≤ t → t ≤ G → vd q → LT (fun d => Tg ok tg ln pc g (G - t) q 0 d) 1000000 (R (t * 120 + q))
/-- by one code -/
theorem tb_1 (hc : Cht vd ok tg ln pc) {G step q x : Nat} {R : Nat → Int} (hG : G ≤ 60) (B : TB vd ok tg ln pc g G (step + 1) R) (hs : step < G) (hq : vd q) (hx : x < 3) : LT (fun d => ok x q ∧ ln x q ≤ G - step ∧ ∃ d', Tg ok tg ln pc g (G - step - ln x q) (tg x q) 0 d' ∧ d = pc x q + d') 1000000 (dB ok tg ln pc G R x step q) := by
  by_cases c : ok x q ∧ step + ln x q ≤ G
  · rw [dB_y c]
    obtain ⟨y1, y2, y3, y4⟩ := (hc q hq).2.2 x hx c.1
    have b := B (step + ln x q) (tg x q) (by omega) c.2 y1
    have r := LT_by (c := pc x q) b (fun d hd => by have := Tg_bd hc _ _ _ _ y1 (by omega) hd; omega) (by omega)
    refine LT_c (fun d => ?_) r
    rw [show G - (step + ln x q) = G - step - ln x q by omega]
    exact ⟨fun z => ⟨c.1, by omega, z⟩, fun z => z.2.2⟩
  · rw [dB_n c]
    exact Or.inl ⟨rfl, fun d z => c ⟨z.1, by have := z.2.1; omega⟩⟩
/-- by all three -/
theorem tb_3 (hc : Cht vd ok tg ln pc) {G step q : Nat} {R : Nat → Int} (hG : G ≤ 60) (B : TB vd ok tg ln pc g G (step + 1) R) (hs : step < G) (hq : vd q) : LT (fun d => Tg ok tg ln pc g (G - step) q 0 d) 1000000 (mi2 (mi2 (mi2 1000000 (dB ok tg ln pc G R 0 step q)) (dB ok tg ln pc G R 1 step q)) (dB ok tg ln pc G R 2 step q)) := by
  have z0 : LT (fun _ => False) 1000000 1000000 := Or.inl ⟨rfl, fun _ z => z⟩
  have a := LT_or (LT_or (LT_or z0 (tb_1 hc hG B hs hq (x := 0) (by omega))) (tb_1 hc hG B hs hq (x := 1) (by omega))) (tb_1 hc hG B hs hq (x := 2) (by omega))
  refine LT_c (fun d => ?_) a
  obtain ⟨k, hk⟩ : ∃ k, G - step = k + 1 := ⟨G - step - 1, by omega⟩
  constructor
  · rintro (((h | ⟨h1, h2, d', h3, h4⟩) | ⟨h1, h2, d', h3, h4⟩) | ⟨h1, h2, d', h3, h4⟩)
    · exact h.elim
    all_goals (obtain ⟨y1, y2, y3, y4⟩ := (hc q hq).2.2 _ (by omega) h1
               rw [hk] at h2 h3 ⊢
               exact Tg_s.mpr ⟨_, _ - 1, _, d', Or.inr ⟨rfl, _, by omega, h1, rfl, Nat.sub_add_cancel y2, rfl⟩, (Tg_b _ k _ d').mpr ⟨by omega, by rw [show ∀ l, 1 ≤ l → k - (l - 1) = k + 1 - l from fun l hl => by omega]; exact h3; exact y2⟩, h4⟩)
  · intro h
    rw [hk] at h ⊢
    obtain ⟨q', b', e, d', s, h2, h3⟩ := Tg_s.mp h
    rcases s with ⟨s1, _⟩ | ⟨_, x, x1, x2, rfl, x4, rfl⟩
    · omega
    · obtain ⟨y1, y2⟩ := (Tg_b b' k _ d').mp h2
      have w : ok x q ∧ ln x q ≤ k + 1 ∧ ∃ d', Tg ok tg ln pc g (k + 1 - ln x q) (tg x q) 0 d' ∧ d = pc x q + d' := ⟨x2, by omega, d', by rw [show k + 1 - ln x q = k - b' by omega]; exact y2, h3⟩
      rcases (show x = 0 ∨ x = 1 ∨ x = 2 by omega) with rfl | rfl | rfl
      · exact Or.inl (Or.inl (Or.inr w))
      · exact Or.inl (Or.inr w)
      · exact Or.inr w
end K89
