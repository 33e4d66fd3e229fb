/-! ===== the pools and the methods against the tables of the Statement ===== -/
def am_cn (o : Nat) : String := [RX0, RX1, RX2, RX3, RX4, RX5, RX6, RX7, RJ6, RJ9, RJ7].getD o RL
/-- what a method answers -/
noncomputable def am_ty (b : Nat) : Option FieldType := match am_rt b with
  | 0 => none
  | 1 => some .int
  | 2 => some .long
  | 3 => some (.object "FasterToBeLater$Planner")
  | _ => some .boolean
/-- the words that pass from frame to frame -/
def am_wds : List Cond := lw_tbl.filter goodWord
theorem am_wd {i : Nat} {w : Cond} (h : lw_tbl[i]? = some w) (hg : goodWord w = true) : w ∈ am_wds := List.mem_filter.mpr ⟨List.mem_of_getElem? h, hg⟩
theorem am_wds_good : ∀ w ∈ am_wds, (w.onTables && w.keeps) = true ∨ ∃ ty, w = .arrayClass ty := fun w h => good_of_word (List.mem_filter.mp h).2
def am_txs : List String := ["circles", "time", "cost", "ship", "drops", "step"]
