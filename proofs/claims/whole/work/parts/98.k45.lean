/-! ===== tag: the game; the model's ===== -/
section K45
variable {ω : am_W}
def tgF (n : Int) (C T : Nat → Int) : Nat → (Nat → Int) → (Nat → Int) → Prop
  | 0, u, w => fW u w
  | t + 1, u, w => fW u w ∨ ∃ c : Nat, c < 3 ∧ codeF n C u (c : Int) ∧ ∀ a : Nat, a < 3 → codeF n C w (a : Int) → tgF n C T t (flyF n C T u (c : Int)) (flyF n C T w (a : Int))
theorem tg_s {n : Int} {C T : Nat → Int} {t : Nat} {u w : Nat → Int} : tgF n C T (t + 1) u w ↔ (fW u w ∨ ∃ c : Nat, c < 3 ∧ codeF n C u (c : Int) ∧ ∀ a : Nat, a < 3 → codeF n C w (a : Int) → tgF n C T t (flyF n C T u (c : Int)) (flyF n C T w (a : Int))) := Iff.rfl
theorem tg_c {n : Int} {C C' T T' : Nat → Int} (hn : n ≤ 6) (hT : Tok T) (hC : Cok C) (eT : E6 T T') (eC : ∀ j, j < 5 → C j = C' j) : ∀ (t : Nat) (u u' w w' : Nat → Int), O_ship n T u → O_ship n T w → E5 u u' → E5 w w' → (tgF n C T t u w ↔ tgF n C' T' t u' w') := by
  intro t
  induction t with
  | zero => intro u u' w w' _ _ hu hw; exact fW_c hu hw
  | succ t ih =>
    intro u u' w w' O P hu hw
    rw [tg_s, tg_s, fW_c hu hw]
    refine or_congr Iff.rfl (exists_congr fun c => and_congr Iff.rfl ?_)
    rw [code_c (C := C) (C' := C') (d := (c : Int)) hn hu eC]
    refine and_congr_right fun hc => forall_congr' fun a => imp_congr_right fun _ => ?_
    rw [code_c (C := C) (C' := C') (d := (a : Int)) hn hw eC]
    refine imp_congr_right fun ha => ?_
    have hc' := (code_c (C := C) (C' := C') (d := (c : Int)) hn hu eC).mpr hc
    have ha' := (code_c (C := C) (C' := C') (d := (a : Int)) hn hw eC).mpr ha
    exact ih _ _ _ _ (fly_O hn hT hC O hc') (fly_O hn hT hC P ha') (fly_c hn hT hC O hc' hu eT eC) (fly_c hn hT hC P ha' hw eT eC)
theorem setM_comm {i j : Nat} {u w : Nat → Int} (h : i ≠ j) : setM (setM ω i u) j w = setM (setM ω j w) i u := by
  refine Prod.ext rfl (Prod.ext (funext fun a => funext fun k => ?_) rfl)
  show (if (59 ≤ a ∧ a ≤ 63) ∧ k = j then w (a - 59) else if (59 ≤ a ∧ a ≤ 63) ∧ k = i then u (a - 59) else ω.2.1 a k) = if (59 ≤ a ∧ a ≤ 63) ∧ k = i then u (a - 59) else if (59 ≤ a ∧ a ≤ 63) ∧ k = j then w (a - 59) else ω.2.1 a k
  by_cases g : (59 ≤ a ∧ a ≤ 63) ∧ k = j
  · rw [if_pos g, if_neg (by omega), if_pos g]
  · rw [if_neg g, if_neg g]
theorem setM_self {i : Nat} {u : Nat → Int} (h : E5 u (mV ω i)) : setM ω i u = ω := by
  refine Prod.ext rfl (Prod.ext (funext fun a => funext fun k => ?_) rfl)
  show (if (59 ≤ a ∧ a ≤ 63) ∧ k = i then u (a - 59) else ω.2.1 a k) = ω.2.1 a k
  by_cases g : (59 ≤ a ∧ a ≤ 63) ∧ k = i
  · rw [if_pos g, h _ (by omega), g.2]
    show ω.2.1 (59 + (a - 59)) i = _
    rw [show 59 + (a - 59) = a by omega]
  · rw [if_neg g]
/-- one does what a code says: it acts -/
theorem m_actsC (h : Bs ω) (hn : 2 ≤ mn ω ∧ mn ω ≤ 6) (hT : Tok (mT ω)) (hC : Cok (mC ω)) {i : Nat} (hi : i < 6) {d : Int} (O : O_ship (mn ω) (mT ω) (mV ω i)) (hc : codeF (mn ω) (mC ω) (mV ω i) d) : am_run (191, 0) 0 ([some (.inr (.inr 53)), some (.inl ((i : Int))), some (.inl d)], [], ω) = some (none, setM ω i (actC (mn ω) (mC ω) (mT ω) (mV ω i) d)) := by
  unfold actC
  rcases hc with rfl | ⟨hd, hc⟩
  · rw [if_pos rfl, setM_self (fun _ _ => rfl)]
    exact m_acts_0 h
  · rw [if_neg (by omega)]
    exact m_actsM h hn hT hC hi hd O hc
theorem act_OC {n : Int} {C T u : Nat → Int} {d : Int} (hn : n ≤ 6) (hT : Tok T) (hC : Cok C) (O : O_ship n T u) (hc : codeF n C u d) : O_ship n T (actC n C T u d) := by
  unfold actC
  rcases hc with rfl | ⟨hd, hc⟩
  · rw [if_pos rfl]; exact O
  · rw [if_neg (by omega)]; exact act_O hn hT hC O hd hc
theorem m_isCodeC (h : Bs ω) (hn : 2 ≤ mn ω ∧ mn ω ≤ 6) (hC : Cok (mC ω)) {i : Nat} (hi : i < 6) (O : O_ship (mn ω) (mT ω) (mV ω i)) {c : Nat} (hc : c < 3) : am_run (189, 0) 0 ([some (.inr (.inr 53)), some (.inl ((i : Int))), some (.inl ((c : Int)))], [], ω) = some (some (.inl (b01 (codeF (mn ω) (mC ω) (mV ω i) (c : Int)))), ω) := by
  by_cases g : c = 0
  · subst g
    rw [b01_pos (show codeF (mn ω) (mC ω) (mV ω i) ((0 : Nat) : Int) from Or.inl rfl)]
    exact m_isCode0
  · rw [m_isCode h hn hC hi O.1 O.2.1 O.2.2.2.2.1 (show (c : Int) = 1 ∨ (c : Int) = 2 by omega)]
    congr 4
    refine b01_c ⟨fun z => Or.inr ⟨by omega, z⟩, fun z => ?_⟩
    rcases z with z | z
    · omega
    · exact z.2
theorem fly_0 {n : Int} {C T u : Nat → Int} {d : Int} : flyF n C T u d 0 = u 0 := by
  unfold flyF
  have a : (if d = 0 then u else actF n C T u d) 0 = u 0 := by
    by_cases g : d = 0
    · rw [if_pos g]
    · rw [if_neg g]; rfl
  generalize (if d = 0 then u else actF n C T u d) = v at a
  by_cases g : 0 < v 4
  · rw [dr_b g]; exact a
  · rw [dr_p g]; exact a
/-- two ships fly and are put back -/
def rst (ω : am_W) (s o : Nat) (a1 a2 a3 a4 b1 b2 b3 b4 : Int) : am_W := am_put (am_put (am_put (am_put (am_put (am_put (am_put (am_put ω 60 s a1) 61 s a2) 62 s a3) 63 s a4) 60 o b1) 61 o b2) 62 o b3) 63 o b4
theorem rst_eq {s o : Nat} (hso : s ≠ o) {A B : Nat → Int} (hA : A 0 = mV ω s 0) (hB : B 0 = mV ω o 0) : rst (setM (setM ω s A) o B) s o (mV ω s 1) (mV ω s 2) (mV ω s 3) (mV ω s 4) (mV ω o 1) (mV ω o 2) (mV ω o 3) (mV ω o 4) = ω := by
  unfold rst
  rw [show (60 : Nat) = 59 + 1 from rfl, show (61 : Nat) = 59 + 2 from rfl, show (62 : Nat) = 59 + 3 from rfl, show (63 : Nat) = 59 + 4 from rfl, setM_comm hso, put_setM2 (by omega), put_setM2 (by omega), put_setM2 (by omega), put_setM2 (by omega), setM_comm (fun z => hso z.symm), put_setM2 (by omega), put_setM2 (by omega), put_setM2 (by omega), put_setM2 (by omega)]
  have e1 : ∀ {X : Nat → Int} {ω' : am_W} {i : Nat}, X 0 = mV ω' i 0 → E5 (up (up (up (up X 1 (mV ω' i 1)) 2 (mV ω' i 2)) 3 (mV ω' i 3)) 4 (mV ω' i 4)) (mV ω' i) := fun {X ω' i} hX f hf => by
    have : f = 0 ∨ f = 1 ∨ f = 2 ∨ f = 3 ∨ f = 4 := by omega
    rcases this with rfl | rfl | rfl | rfl | rfl
    · exact hX
    · rfl
    · rfl
    · rfl
    · rfl
  rw [setM_self (ω := ω) (i := s) (e1 hA), setM_self (ω := ω) (i := o) (e1 hB)]
theorem m_tags : ∀ (t ℓ : Nat) (ω : am_W) (s o : Nat), t + 1 ≤ ℓ → t ≤ 5 → Bs ω → 2 ≤ mn ω ∧ mn ω ≤ 6 → Tok (mT ω) → Cok (mC ω) → s < 6 → o < 6 → s ≠ o → O_ship (mn ω) (mT ω) (mV ω s) → O_ship (mn ω) (mT ω) (mV ω o) → am_run (219, ℓ) 0 ([some (.inr (.inr 53)), some (.inl ((s : Int))), some (.inl ((o : Int))), some (.inl ((t : Int))), none, none, none, none, none, none, none, none, none, none, none, none], [], ω) = some (some (.inl (b01 (tgF (mn ω) (mC ω) (mT ω) t (mV ω s) (mV ω o)))), ω) := by
  intro t
  induction t with
  | zero =>
    intro ℓ ω s o hℓ _ h hn hT hC hs ho hso O P
    obtain ⟨lv, rfl⟩ : ∃ lv, ℓ = lv + 1 := ⟨ℓ - 1, by omega⟩
    rw [pX7_tags_0 _ _ _ _ _ _ (i_53 h)]
    simp only [m_meet h hs ho, am_bi_s]
    rw [show tgF (mn ω) (mC ω) (mT ω) 0 (mV ω s) (mV ω o) = fW (mV ω s) (mV ω o) from rfl]
    by_cases g : fW (mV ω s) (mV ω o)
    · rw [b01_pos g, if_neg (by omega)]
    · rw [b01_neg g, if_pos rfl, if_neg (by omega)]
  | succ t ih =>
    intro ℓ ω s o hℓ h5 h hn hT hC hs ho hso O P
    obtain ⟨lv, rfl⟩ : ∃ lv, ℓ = lv + 1 := ⟨ℓ - 1, by omega⟩
    have hn6 := hn.2
    -- answers
    have ans : ∀ c : Nat, c < 3 → codeF (mn ω) (mC ω) (mV ω s) (c : Int) → ∀ d a : Nat, a + d = 3 → ∀ l12 : Int, ((∀ a' : Nat, a ≤ a' → a' < 3 → codeF (mn ω) (mC ω) (mV ω o) (a' : Int) → tgF (mn ω) (mC ω) (mT ω) t (flyF (mn ω) (mC ω) (mT ω) (mV ω s) (c : Int)) (flyF (mn ω) (mC ω) (mT ω) (mV ω o) (a' : Int))) → ∃ o15, am_run (219, (lv + 1)) 117 ([some (.inr (.inr 53)), some (.inl ((s : Int))), some (.inl ((o : Int))), some (.inl (((t + 1 : Nat) : Int))), some (.inl (mV ω s 1)), some (.inl (mV ω s 2)), some (.inl (mV ω s 3)), some (.inl (mV ω s 4)), some (.inl (mV ω o 1)), some (.inl (mV ω o 2)), some (.inl (mV ω o 3)), some (.inl (mV ω o 4)), some (.inl l12), some (.inl ((c : Int))), some (.inl 1), some (.inl ((a : Int)))], [], ω) = am_run (219, (lv + 1)) 87 ([some (.inr (.inr 53)), some (.inl ((s : Int))), some (.inl ((o : Int))), some (.inl (((t + 1 : Nat) : Int))), some (.inl (mV ω s 1)), some (.inl (mV ω s 2)), some (.inl (mV ω s 3)), some (.inl (mV ω s 4)), some (.inl (mV ω o 1)), some (.inl (mV ω o 2)), some (.inl (mV ω o 3)), some (.inl (mV ω o 4)), some (.inl 1), some (.inl (((c + 1 : Nat) : Int))), some (.inl 1), o15], [], ω)) ∧ ((∃ a' : Nat, a ≤ a' ∧ a' < 3 ∧ codeF (mn ω) (mC ω) (mV ω o) (a' : Int) ∧ ¬ tgF (mn ω) (mC ω) (mT ω) t (flyF (mn ω) (mC ω) (mT ω) (mV ω s) (c : Int)) (flyF (mn ω) (mC ω) (mT ω) (mV ω o) (a' : Int))) → ∃ o15, am_run (219, (lv + 1)) 117 ([some (.inr (.inr 53)), some (.inl ((s : Int))), some (.inl ((o : Int))), some (.inl (((t + 1 : Nat) : Int))), some (.inl (mV ω s 1)), some (.inl (mV ω s 2)), some (.inl (mV ω s 3)), some (.inl (mV ω s 4)), some (.inl (mV ω o 1)), some (.inl (mV ω o 2)), some (.inl (mV ω o 3)), some (.inl (mV ω o 4)), some (.inl l12), some (.inl ((c : Int))), some (.inl 1), some (.inl ((a : Int)))], [], ω) = am_run (219, (lv + 1)) 87 ([some (.inr (.inr 53)), some (.inl ((s : Int))), some (.inl ((o : Int))), some (.inl (((t + 1 : Nat) : Int))), some (.inl (mV ω s 1)), some (.inl (mV ω s 2)), some (.inl (mV ω s 3)), some (.inl (mV ω s 4)), some (.inl (mV ω o 1)), some (.inl (mV ω o 2)), some (.inl (mV ω o 3)), some (.inl (mV ω o 4)), some (.inl 0), some (.inl (((c + 1 : Nat) : Int))), some (.inl 0), o15], [], ω)) := by
      intro c hc gc d
      induction d with
      | zero =>
        intro a ha l12
        have q := pX7_tags_117 lv 53 s o ((t + 1 : Nat) : Int) (mV ω s 1) (mV ω s 2) (mV ω s 3) (mV ω s 4) (mV ω o 1) (mV ω o 2) (mV ω o 3) (mV ω o 4) l12 c 1 a ω (i_53 h)
        rw [if_pos (by omega), am_w_s (by omega) (by omega), show (c : Int) + 1 = ((c + 1 : Nat) : Int) by omega] at q
        exact ⟨fun _ => ⟨_, q⟩, fun ⟨a', h1, h2, _⟩ => by omega⟩
      | succ d ihd =>
        intro a ha l12
        have q := pX7_tags_117 lv 53 s o ((t + 1 : Nat) : Int) (mV ω s 1) (mV ω s 2) (mV ω s 3) (mV ω s 4) (mV ω o 1) (mV ω o 2) (mV ω o 3) (mV ω o 4) l12 c 1 a ω (i_53 h)
        have a1 : am_w ((a : Int) + 1) = ((a + 1 : Nat) : Int) := (am_w_s (by omega) (by omega)).trans (by omega)
        have c1 : am_w ((c : Int) + 1) = ((c + 1 : Nat) : Int) := (am_w_s (by omega) (by omega)).trans (by omega)
        have t1 : am_w (((t + 1 : Nat) : Int) - 1) = (t : Int) := (am_w_s (by omega) (by omega)).trans (by omega)
        rw [if_neg (by omega), if_neg (by omega)] at q
        simp only [m_isCodeC h hn hC ho P (show a < 3 by omega), am_bi_s, pX7_tags_240, a1] at q
        by_cases ga : codeF (mn ω) (mC ω) (mV ω o) (a : Int)
        · -- both act and drift
          have S1 := m_actsC h hn hT hC hs O gc
          have Oa := act_OC hn6 hT hC O gc
          have Pa := act_OC hn6 hT hC P ga
          have B1 := h.dc (setM_dc h (i := s) (u := actC (mn ω) (mC ω) (mT ω) (mV ω s) (c : Int)))
          obtain ⟨x1, x2, x3, x4⟩ := setM_m (ω := ω) (i := s) (u := actC (mn ω) (mC ω) (mT ω) (mV ω s) (c : Int))
          have xo : mV (setM ω s (actC (mn ω) (mC ω) (mT ω) (mV ω s) (c : Int))) o = mV ω o := funext fun f => setM_Vo (fun z => hso z.symm)
          have S2 := m_actsC B1 (by rw [x1]; exact hn) (by rw [x3]; exact hT) (by rw [x4]; exact hC) ho (d := (a : Int)) (by rw [x1, x3, xo]; exact P) (by rw [x1, x4, xo]; exact ga)
          rw [x1, x3, x4, xo] at S2
          have B2 := B1.dc (setM_dc B1 (i := o) (u := actC (mn ω) (mC ω) (mT ω) (mV ω o) (a : Int)))
          obtain ⟨y1, y2, y3, y4⟩ := setM_m (ω := setM ω s (actC (mn ω) (mC ω) (mT ω) (mV ω s) (c : Int))) (i := o) (u := actC (mn ω) (mC ω) (mT ω) (mV ω o) (a : Int))
          have ys : E5 (actC (mn ω) (mC ω) (mT ω) (mV ω s) (c : Int)) (mV (setM (setM ω s (actC (mn ω) (mC ω) (mT ω) (mV ω s) (c : Int))) o (actC (mn ω) (mC ω) (mT ω) (mV ω o) (a : Int))) s) := fun f hf => ((setM_Vo hso).trans (setM_V hf)).symm
          have S3 := m_driftM B2 (by rw [y1, x1]; exact hn6) (by rw [y3, x3]; exact hT) hs (by rw [y1, x1, y3, x3]; exact O_c hn6 ys (fun _ _ => rfl) Oa)
          rw [y3, x3, setM_comm (i := s) (j := o) hso, setM_setM] at S3
          have d3 : setM (setM ω o (actC (mn ω) (mC ω) (mT ω) (mV ω o) (a : Int))) s (drF (mT ω) (mV (setM (setM ω o (actC (mn ω) (mC ω) (mT ω) (mV ω o) (a : Int))) s (actC (mn ω) (mC ω) (mT ω) (mV ω s) (c : Int))) s)) = setM (setM ω o (actC (mn ω) (mC ω) (mT ω) (mV ω o) (a : Int))) s (flyF (mn ω) (mC ω) (mT ω) (mV ω s) (c : Int)) := by
            refine setM_c (fun f hf => ?_)
            exact (dr_c hn6 Oa (fun f hf => (setM_V (ω := setM ω o (actC (mn ω) (mC ω) (mT ω) (mV ω o) (a : Int))) (i := s) hf).symm) (fun _ _ => rfl) f hf).symm
          rw [d3] at S3
          have B3 : Bs (setM (setM ω o (actC (mn ω) (mC ω) (mT ω) (mV ω o) (a : Int))) s (flyF (mn ω) (mC ω) (mT ω) (mV ω s) (c : Int))) := (h.dc (setM_dc h)).dc (setM_dc (h.dc (setM_dc h)))
          obtain ⟨z1, z2, z3, z4⟩ := setM_m (ω := setM ω o (actC (mn ω) (mC ω) (mT ω) (mV ω o) (a : Int))) (i := s) (u := flyF (mn ω) (mC ω) (mT ω) (mV ω s) (c : Int))
          obtain ⟨w1, w2, w3, w4⟩ := setM_m (ω := ω) (i := o) (u := actC (mn ω) (mC ω) (mT ω) (mV ω o) (a : Int))
          have zo : E5 (actC (mn ω) (mC ω) (mT ω) (mV ω o) (a : Int)) (mV (setM (setM ω o (actC (mn ω) (mC ω) (mT ω) (mV ω o) (a : Int))) s (flyF (mn ω) (mC ω) (mT ω) (mV ω s) (c : Int))) o) := fun f hf => ((setM_Vo (fun z => hso z.symm)).trans (setM_V hf)).symm
          have S4 := m_driftM B3 (by rw [z1, w1]; exact hn6) (by rw [z3, w3]; exact hT) ho (by rw [z1, w1, z3, w3]; exact O_c hn6 zo (fun _ _ => rfl) Pa)
          rw [z3, w3] at S4
          have d4 : setM (setM (setM ω o (actC (mn ω) (mC ω) (mT ω) (mV ω o) (a : Int))) s (flyF (mn ω) (mC ω) (mT ω) (mV ω s) (c : Int))) o (drF (mT ω) (mV (setM (setM ω o (actC (mn ω) (mC ω) (mT ω) (mV ω o) (a : Int))) s (flyF (mn ω) (mC ω) (mT ω) (mV ω s) (c : Int))) o)) = setM (setM ω s (flyF (mn ω) (mC ω) (mT ω) (mV ω s) (c : Int))) o (flyF (mn ω) (mC ω) (mT ω) (mV ω o) (a : Int)) := by
            rw [setM_comm (i := o) (j := s) (fun z => hso z.symm), setM_setM]
            refine setM_c (fun f hf => ?_)
            exact (dr_c hn6 Pa (fun f hf => (setM_V (ω := setM ω s (flyF (mn ω) (mC ω) (mT ω) (mV ω s) (c : Int))) (i := o) hf).symm) (fun _ _ => rfl) f hf).symm
          rw [d4] at S4
          rw [setM_comm (i := s) (j := o) hso] at S2
          have B2' : Bs (setM (setM ω o (actC (mn ω) (mC ω) (mT ω) (mV ω o) (a : Int))) s (actC (mn ω) (mC ω) (mT ω) (mV ω s) (c : Int))) := (h.dc (setM_dc h)).dc (setM_dc (h.dc (setM_dc h)))
          have B4 : Bs (setM (setM ω s (flyF (mn ω) (mC ω) (mT ω) (mV ω s) (c : Int))) o (flyF (mn ω) (mC ω) (mT ω) (mV ω o) (a : Int))) := (h.dc (setM_dc h)).dc (setM_dc (h.dc (setM_dc h)))
          have Of := fly_O hn6 hT hC O gc
          have Pf := fly_O hn6 hT hC P ga
          have vs : E5 (flyF (mn ω) (mC ω) (mT ω) (mV ω s) (c : Int)) (mV (setM (setM ω s (flyF (mn ω) (mC ω) (mT ω) (mV ω s) (c : Int))) o (flyF (mn ω) (mC ω) (mT ω) (mV ω o) (a : Int))) s) := fun f hf => ((setM_Vo hso).trans (setM_V hf)).symm
          have vo : E5 (flyF (mn ω) (mC ω) (mT ω) (mV ω o) (a : Int)) (mV (setM (setM ω s (flyF (mn ω) (mC ω) (mT ω) (mV ω s) (c : Int))) o (flyF (mn ω) (mC ω) (mT ω) (mV ω o) (a : Int))) o) := fun f hf => (setM_V hf).symm
          obtain ⟨m1, m2, m3, m4⟩ := setM_m (ω := setM ω s (flyF (mn ω) (mC ω) (mT ω) (mV ω s) (c : Int))) (i := o) (u := flyF (mn ω) (mC ω) (mT ω) (mV ω o) (a : Int))
          obtain ⟨n1, n2, n3, n4⟩ := setM_m (ω := ω) (i := s) (u := flyF (mn ω) (mC ω) (mT ω) (mV ω s) (c : Int))
          have rc := ih lv _ s o (by omega) (by omega) B4 (by rw [m1, n1]; exact hn) (by rw [m3, n3]; exact hT) (by rw [m4, n4]; exact hC) hs ho hso (by rw [m1, n1, m3, n3]; exact O_c hn6 vs (fun _ _ => rfl) Of) (by rw [m1, n1, m3, n3]; exact O_c hn6 vo (fun _ _ => rfl) Pf)
          rw [m1, n1, m3, n3, m4, n4, ← b01_c (tg_c hn6 hT hC (fun _ _ => rfl) (fun _ _ => rfl) t _ _ _ _ Of Pf vs vo)] at rc
          have back := rst_eq (ω := ω) hso (A := flyF (mn ω) (mC ω) (mT ω) (mV ω s) (c : Int)) (B := flyF (mn ω) (mC ω) (mT ω) (mV ω o) (a : Int)) fly_0 fly_0
          rw [b01_pos ga] at q
          simp only [am_bi_s, am_bl_s, am_ba_s, am_bv_s, Int.toNat_zero, Int.reduceToNat, Int.toNat_natCast, if_true, if_false, not_true, not_false_eq_true, Int.reduceEq, Int.reduceLT, Int.reduceLE, i_53 h, S1, i_53 B1, S2, i_53 B2', S3, i_53 B3, S4, i_53 B4, t1, rc, i_53 B4, f_53_0 B4, f_53_1 B4, f_53_2 B4, f_53_4 B4, f_53_5 B4, f_53_7 B4, f_53_8 B4, f_53_9 B4, f_53_10 B4, f_53_11 B4, n_59 B4 (i := (s : Int)) (by omega) (by omega), n_60 B4 (i := (s : Int)) (by omega) (by omega), n_61 B4 (i := (s : Int)) (by omega) (by omega), n_62 B4 (i := (s : Int)) (by omega) (by omega), n_63 B4 (i := (s : Int)) (by omega) (by omega), gp_same, gp_cell, gp_place, put_in, put_is, put_ina, ne_eq, Nat.reduceEqDiff, reduceCtorEq, not_false_eq_true] at q
          rw [pX7_tags_192 _ _ _ _ _ _ _ _ _ _ _ _ _ _ _ _ _ _ (by have z := i_53 B4; exact z)] at q
          simp only [gp_same, gp_cell, gp_place, put_in, put_is, put_ina, ne_eq, Nat.reduceEqDiff, reduceCtorEq, not_false_eq_true, am_bi_s, am_bl_s, am_ba_s, am_bv_s, Int.toNat_zero, Int.reduceToNat, Int.toNat_natCast, if_true, if_false, not_true, not_false_eq_true, Int.reduceEq, Int.reduceLT, Int.reduceLE, i_53 B4, f_53_0 B4, f_53_1 B4, f_53_2 B4, f_53_4 B4, f_53_5 B4, f_53_7 B4, f_53_8 B4, f_53_9 B4, f_53_10 B4, f_53_11 B4, n_59 B4 (i := (s : Int)) (by omega) (by omega), n_60 B4 (i := (s : Int)) (by omega) (by omega), n_61 B4 (i := (s : Int)) (by omega) (by omega), n_62 B4 (i := (s : Int)) (by omega) (by omega), n_63 B4 (i := (s : Int)) (by omega) (by omega)] at q
          rw [pX7_tags_208 _ _ _ _ _ _ _ _ _ _ _ _ _ _ _ _ _ _ (by have z := i_53 B4; exact z)] at q
          simp only [gp_same, gp_cell, gp_place, put_in, put_is, put_ina, ne_eq, Nat.reduceEqDiff, reduceCtorEq, not_false_eq_true, am_bi_s, am_bl_s, am_ba_s, am_bv_s, Int.toNat_zero, Int.reduceToNat, Int.toNat_natCast, if_true, if_false, not_true, not_false_eq_true, Int.reduceEq, Int.reduceLT, Int.reduceLE, i_53 B4, f_53_0 B4, f_53_1 B4, f_53_2 B4, f_53_4 B4, f_53_5 B4, f_53_7 B4, f_53_8 B4, f_53_9 B4, f_53_10 B4, f_53_11 B4, n_59 B4 (i := (o : Int)) (by omega) (by omega), n_60 B4 (i := (o : Int)) (by omega) (by omega), n_61 B4 (i := (o : Int)) (by omega) (by omega), n_62 B4 (i := (o : Int)) (by omega) (by omega), n_63 B4 (i := (o : Int)) (by omega) (by omega)] at q
          rw [pX7_tags_224 _ _ _ _ _ _ _ _ _ _ _ _ _ _ _ _ _ _ (by have z := i_53 B4; exact z)] at q
          simp only [gp_same, gp_cell, gp_place, put_in, put_is, put_ina, ne_eq, Nat.reduceEqDiff, reduceCtorEq, not_false_eq_true, am_bi_s, am_bl_s, am_ba_s, am_bv_s, Int.toNat_zero, Int.reduceToNat, Int.toNat_natCast, if_true, if_false, not_true, not_false_eq_true, Int.reduceEq, Int.reduceLT, Int.reduceLE, i_53 B4, f_53_0 B4, f_53_1 B4, f_53_2 B4, f_53_4 B4, f_53_5 B4, f_53_7 B4, f_53_8 B4, f_53_9 B4, f_53_10 B4, f_53_11 B4, n_59 B4 (i := (o : Int)) (by omega) (by omega), n_60 B4 (i := (o : Int)) (by omega) (by omega), n_61 B4 (i := (o : Int)) (by omega) (by omega), n_62 B4 (i := (o : Int)) (by omega) (by omega), n_63 B4 (i := (o : Int)) (by omega) (by omega)] at q
          unfold rst at back
          rw [pX7_tags_240, a1, back] at q
          by_cases gz : tgF (mn ω) (mC ω) (mT ω) t (flyF (mn ω) (mC ω) (mT ω) (mV ω s) (c : Int)) (flyF (mn ω) (mC ω) (mT ω) (mV ω o) (a : Int))
          · rw [b01_pos gz] at q
            obtain ⟨i1, i2⟩ := ihd (a + 1) (by omega) l12
            refine ⟨fun z => ?_, fun ⟨a', h1, h2, h3, h4⟩ => ?_⟩
            · obtain ⟨o15, r⟩ := i1 (fun a' h1 h2 => z a' (by omega) h2)
              exact ⟨o15, q.trans r⟩
            · obtain ⟨o15, r⟩ := i2 ⟨a', by
                by_cases e : a' = a
                · exact absurd (e ▸ gz) h4
                · omega, h2, h3, h4⟩
              exact ⟨o15, q.trans r⟩
          · rw [b01_neg gz] at q
            refine ⟨fun z => absurd (z a (by omega) (by omega) ga) gz, fun _ => ⟨some (.inl ((a + 1 : Nat) : Int)), q.trans ?_⟩⟩
            rw [pX7_tags_117 _ _ _ _ _ _ _ _ _ _ _ _ _ _ _ _ _ _ (i_53 h), if_pos rfl, c1, ite_self]
        · rw [b01_neg ga, if_neg (by omega)] at q
          obtain ⟨i1, i2⟩ := ihd (a + 1) (by omega) l12
          refine ⟨fun z => ?_, fun ⟨a', h1, h2, h3, h4⟩ => ?_⟩
          · obtain ⟨o15, r⟩ := i1 (fun a' h1 h2 => z a' (by omega) h2)
            exact ⟨o15, q.trans r⟩
          · obtain ⟨o15, r⟩ := i2 ⟨a', by
              by_cases e : a' = a
              · exact absurd (e ▸ h3) ga
              · omega, h2, h3, h4⟩
            exact ⟨o15, q.trans r⟩
    have cod : ∀ d c : Nat, c + d = 3 → ∀ o14 o15 : Option am_V, am_run (219, (lv + 1)) 87 ([some (.inr (.inr 53)), some (.inl ((s : Int))), some (.inl ((o : Int))), some (.inl (((t + 1 : Nat) : Int))), some (.inl (mV ω s 1)), some (.inl (mV ω s 2)), some (.inl (mV ω s 3)), some (.inl (mV ω s 4)), some (.inl (mV ω o 1)), some (.inl (mV ω o 2)), some (.inl (mV ω o 3)), some (.inl (mV ω o 4)), some (.inl 0), some (.inl ((c : Int))), o14, o15], [], ω) = some (some (.inl (b01 (∃ c' : Nat, c ≤ c' ∧ c' < 3 ∧ codeF (mn ω) (mC ω) (mV ω s) (c' : Int) ∧ ∀ a : Nat, a < 3 → codeF (mn ω) (mC ω) (mV ω o) (a : Int) → tgF (mn ω) (mC ω) (mT ω) t (flyF (mn ω) (mC ω) (mT ω) (mV ω s) (c' : Int)) (flyF (mn ω) (mC ω) (mT ω) (mV ω o) (a : Int))))), ω) := by
      intro d
      induction d with
      | zero =>
        intro c hc o14 o15
        rw [pX7_tags_87 _ _ _ _ _ _ _ _ _ _ _ _ _ _ _ _ _ _ (i_53 h), if_pos (by omega), if_pos (show am_nar 4 0 = true from rfl), b01_neg (fun ⟨c', h1, h2, _⟩ => by omega)]
      | succ d ihd =>
        intro c hc o14 o15
        have c1 : am_w ((c : Int) + 1) = ((c + 1 : Nat) : Int) := (am_w_s (by omega) (by omega)).trans (by omega)
        have nx : ¬ (codeF (mn ω) (mC ω) (mV ω s) (c : Int) ∧ ∀ a : Nat, a < 3 → codeF (mn ω) (mC ω) (mV ω o) (a : Int) → tgF (mn ω) (mC ω) (mT ω) t (flyF (mn ω) (mC ω) (mT ω) (mV ω s) (c : Int)) (flyF (mn ω) (mC ω) (mT ω) (mV ω o) (a : Int))) → b01 (∃ c' : Nat, c + 1 ≤ c' ∧ c' < 3 ∧ codeF (mn ω) (mC ω) (mV ω s) (c' : Int) ∧ ∀ a : Nat, a < 3 → codeF (mn ω) (mC ω) (mV ω o) (a : Int) → tgF (mn ω) (mC ω) (mT ω) t (flyF (mn ω) (mC ω) (mT ω) (mV ω s) (c' : Int)) (flyF (mn ω) (mC ω) (mT ω) (mV ω o) (a : Int))) = b01 (∃ c' : Nat, c ≤ c' ∧ c' < 3 ∧ codeF (mn ω) (mC ω) (mV ω s) (c' : Int) ∧ ∀ a : Nat, a < 3 → codeF (mn ω) (mC ω) (mV ω o) (a : Int) → tgF (mn ω) (mC ω) (mT ω) t (flyF (mn ω) (mC ω) (mT ω) (mV ω s) (c' : Int)) (flyF (mn ω) (mC ω) (mT ω) (mV ω o) (a : Int))) := fun ng => b01_c ⟨fun ⟨c', h1, h2⟩ => ⟨c', by omega, h2⟩, fun ⟨c', h1, h2, h3⟩ => ⟨c', by
            by_cases e : c' = c
            · exact absurd (e ▸ h3) ng
            · omega, h2, h3⟩⟩
        rw [pX7_tags_87 _ _ _ _ _ _ _ _ _ _ _ _ _ _ _ _ _ _ (i_53 h), if_neg (by omega), if_neg (by omega), bi_v (m_isCodeC h hn hC hs O (show c < 3 by omega)), c1]
        by_cases gc : codeF (mn ω) (mC ω) (mV ω s) (c : Int)
        · rw [b01_pos gc, if_pos (by omega)]
          obtain ⟨a1, a2⟩ := ans c (by omega) gc 3 0 (by omega) 0
          by_cases ga : ∀ a : Nat, a < 3 → codeF (mn ω) (mC ω) (mV ω o) (a : Int) → tgF (mn ω) (mC ω) (mT ω) t (flyF (mn ω) (mC ω) (mT ω) (mV ω s) (c : Int)) (flyF (mn ω) (mC ω) (mT ω) (mV ω o) (a : Int))
          · obtain ⟨o', r⟩ := a1 (fun a' _ h2 => ga a' h2)
            rw [b01_pos ⟨c, by omega, by omega, gc, ga⟩]
            refine r.trans ?_
            rw [pX7_tags_87 _ _ _ _ _ _ _ _ _ _ _ _ _ _ _ _ _ _ (i_53 h), if_pos (show am_nar 4 1 = true from rfl), if_pos (show ¬ (1 : Int) = 0 by omega), ite_self]
          · obtain ⟨a', ha'⟩ := Classical.not_forall.mp ga
            obtain ⟨h2, ha''⟩ := Classical.not_imp.mp ha'
            obtain ⟨h3, h4⟩ := Classical.not_imp.mp ha''
            obtain ⟨o', r⟩ := a2 ⟨a', by omega, h2, h3, h4⟩
            refine r.trans ((ihd (c + 1) (by omega) _ _).trans ?_)
            rw [nx (fun z => ga z.2)]
        · rw [b01_neg gc, if_neg (by omega), ihd (c + 1) (by omega), nx (fun z => gc z.1)]
    have x1 : am_get ω 60 s = mV ω s 1 := rfl
    have x2 : am_get ω 61 s = mV ω s 2 := rfl
    have x3 : am_get ω 62 s = mV ω s 3 := rfl
    have x4 : am_get ω 63 s = mV ω s 4 := rfl
    have y1 : am_get ω 60 o = mV ω o 1 := rfl
    have y2 : am_get ω 61 o = mV ω o 2 := rfl
    have y3 : am_get ω 62 o = mV ω o 3 := rfl
    have y4 : am_get ω 63 o = mV ω o 4 := rfl
    rw [pX7_tags_0 _ _ _ _ _ _ (i_53 h)]
    simp only [m_meet h hs ho, am_bi_s, am_bl_s, am_ba_s, am_bv_s, Int.toNat_zero, Int.reduceToNat, Int.toNat_natCast, if_true, if_false, not_true, not_false_eq_true, Int.reduceEq, Int.reduceLT, Int.reduceLE, i_53 h, f_53_0 h, f_53_1 h, f_53_2 h, f_53_4 h, f_53_5 h, f_53_7 h, f_53_8 h, f_53_9 h, f_53_10 h, f_53_11 h, n_59 h (i := (s : Int)) (by omega) (by omega), n_60 h (i := (s : Int)) (by omega) (by omega), n_61 h (i := (s : Int)) (by omega) (by omega), n_62 h (i := (s : Int)) (by omega) (by omega), n_63 h (i := (s : Int)) (by omega) (by omega), n_59 h (i := (o : Int)) (by omega) (by omega), n_60 h (i := (o : Int)) (by omega) (by omega), n_61 h (i := (o : Int)) (by omega) (by omega), n_62 h (i := (o : Int)) (by omega) (by omega), n_63 h (i := (o : Int)) (by omega) (by omega), x1, x2, x3, x4, y1, y2, y3, y4, if_pos (show ¬ ((t + 1 : Nat) : Int) = 0 by omega)]
    have c0 := cod 3 0 (by omega) none none
    rw [show (some (.inl ((0 : Nat) : Int)) : Option am_V) = some (.inl 0) from rfl] at c0
    rw [c0]
    by_cases g : fW (mV ω s) (mV ω o)
    · rw [b01_pos g, if_neg (by omega), b01_pos (tg_s.mpr (Or.inl g))]
    · rw [b01_neg g, if_pos rfl]
      congr 4
      refine b01_c ?_
      rw [tg_s]
      constructor
      · rintro ⟨c', _, z⟩; exact Or.inr ⟨c', z⟩
      · rintro (z | ⟨c', z⟩)
        · exact absurd z g
        · exact ⟨c', by omega, z⟩
end K45
