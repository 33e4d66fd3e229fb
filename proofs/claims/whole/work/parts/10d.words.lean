/-! ===== the pools against the tables ===== -/
def am_okf (o : Nat) (q : Nat × Nat × Nat × Nat) : Bool := Nat.beq q.1 999999 || (decide (q.2.1 < 8) && (decide (q.2.2.1 < am_nf q.2.1) && (match vwCl[q.2.1]? with | some r => decide (lw_tbl[q.2.2.2]? = some (.fieldLink (am_cn o) q.1 (r.2.1 q.2.2.1).1 (r.2.1 q.2.2.1).2.1 (r.2.1 q.2.2.1).2.2.1)) | none => false)))
theorem am_okf_0 : am_allb (am_okf 0) mf_0 = true := by decide +kernel
theorem am_okf_1 : am_allb (am_okf 1) mf_1 = true := by decide +kernel
theorem am_okf_2 : am_allb (am_okf 2) mf_2 = true := by decide +kernel
theorem am_okf_3 : am_allb (am_okf 3) mf_3 = true := by decide +kernel
theorem am_okf_4 : am_allb (am_okf 4) mf_4 = true := by decide +kernel
theorem am_okf_5 : am_allb (am_okf 5) mf_5 = true := by decide +kernel
theorem am_okf_6 : am_allb (am_okf 6) mf_6 = true := by decide +kernel
theorem am_okf_7 : am_allb (am_okf 7) mf_7 = true := by decide +kernel
theorem am_okf_8 : am_allb (am_okf 8) mf_8 = true := by decide +kernel
theorem am_okf_9 : am_allb (am_okf 9) mf_9 = true := by decide +kernel
theorem am_okf_10 : am_allb (am_okf 10) mf_10 = true := by decide +kernel
theorem am_okf_11 : am_allb (am_okf 11) mf_11 = true := by decide +kernel
def am_okp (o : Nat) (q : Nat × Nat × Nat × Nat × Nat × Nat × Nat × Nat × Nat) : Bool := Nat.beq q.1 999999 || (match q with
  | (idx, kd, b, na, rk, w, w2, w3, w4) =>
    let y := am_nm.getImpl b
    let own := (am_mt.getImpl b).1
    let rt := (am_mt.getImpl b).2.2.1
    let rok := Nat.beq rk (if rt = 4 then 1 else rt)
    let ini := decide (lw_tbl[w4]? = some (.initialized y.cls))
    match kd with
    | 0 => decide (lw_tbl[w]? = some (.methodLink (am_cn o) idx y)) && (decide (lw_tbl[w2]? = some (.instanceMethod y)) && (decide (lw_tbl[w3]? = some (.selects y.cls y y)) && (ini && (decide (own < 8) && (rok && (decide (b < 240) && decide ((parseMethodDescriptor y.desc).map (fun d => d.parameters.length + 1) = some na)))))))
    | 2 => decide (lw_tbl[w]? = some (.methodLink (am_cn o) idx y)) && (decide (lw_tbl[w2]? = some (.static y)) && (ini && (rok && (decide (b < 240) && decide ((parseMethodDescriptor y.desc).map (fun d => d.parameters.length) = some na)))))
    | 3 => decide (lw_tbl[w]? = some (.methodLinkNest (am_cn o) idx y "FasterToBeLater")) && (decide (lw_tbl[w2]? = some (.static y)) && (ini && (rok && (decide (b < 240) && decide ((parseMethodDescriptor y.desc).map (fun d => d.parameters.length) = some na)))))
    | 4 => decide (lw_tbl[w]? = some (.methodLink (am_cn o) idx y)) && (decide (lw_tbl[w2]? = some (.instanceMethod y)) && (decide (y.name = "<init>") && (ini && (decide (own < 8) && (decide (rk = 0 ∧ rt = 0) && (decide (b < 240) && decide ((parseMethodDescriptor y.desc).map (fun d => d.parameters.length + 1) = some na)))))))
    | 5 => decide (lw_tbl[w]? = some (.methodLinkNest (am_cn o) idx y "FasterToBeLater")) && (decide (lw_tbl[w2]? = some (.instanceMethod y)) && (decide (y.name = "<init>") && (ini && (decide (own < 8) && (decide (rk = 0 ∧ rt = 0) && (decide (b < 240) && decide ((parseMethodDescriptor y.desc).map (fun d => d.parameters.length + 1) = some na)))))))
    | 6 => decide (lw_tbl[w]? = some (.methodLink (am_cn o) idx objectInit))
    | 7 => decide (lw_tbl[w]? = some (.methodLink (am_cn o) idx arraycopyName))
    | 8 => decide (lw_tbl[w]? = some (.methodLink (am_cn o) idx yJ0_length_8abf5))
    | 9 => decide (lw_tbl[w]? = some (.methodLink (am_cn o) idx yJ0_charAt_5068e))
    | _ => false)
theorem am_okp_0 : am_allb (am_okp 0) mp_0 = true := by decide +kernel
theorem am_okp_1 : am_allb (am_okp 1) mp_1 = true := by decide +kernel
theorem am_okp_2 : am_allb (am_okp 2) mp_2 = true := by decide +kernel
theorem am_okp_3 : am_allb (am_okp 3) mp_3 = true := by decide +kernel
theorem am_okp_4 : am_allb (am_okp 4) mp_4 = true := by decide +kernel
theorem am_okp_5 : am_allb (am_okp 5) mp_5 = true := by decide +kernel
theorem am_okp_6 : am_allb (am_okp 6) mp_6 = true := by decide +kernel
theorem am_okp_7 : am_allb (am_okp 7) mp_7 = true := by decide +kernel
theorem am_okp_8 : am_allb (am_okp 8) mp_8 = true := by decide +kernel
theorem am_okp_9 : am_allb (am_okp 9) mp_9 = true := by decide +kernel
theorem am_okp_10 : am_allb (am_okp 10) mp_10 = true := by decide +kernel
theorem am_okp_11 : am_allb (am_okp 11) mp_11 = true := by decide +kernel
def am_okq (o : Nat) (q : Nat × Int × Nat) : Bool := Nat.beq q.1 999999 || (decide (lw_tbl[q.2.2]? = some (.constant (am_cn o) q.1 (Int32.ofInt q.2.1))) && (decide (-2147483648 ≤ q.2.1) && decide (q.2.1 < 2147483648)))
def am_okl (o : Nat) (q : Nat × Int × Nat) : Bool := Nat.beq q.1 999999 || (decide (lw_tbl[q.2.2]? = some (.constantLong (am_cn o) q.1 (Int64.ofInt q.2.1))) && (decide (-9223372036854775808 ≤ q.2.1) && decide (q.2.1 < 9223372036854775808)))
def am_okx (o : Nat) (q : Nat × Nat × Nat) : Bool := Nat.beq q.1 999999 || (decide (lw_tbl[q.2.2]? = some (.stringRef (am_cn o) q.1 (am_txs.getD q.2.1 ""))) && (decide (q.2.1 < 6) && (decide (o = 3) || decide (o = 7))))
def am_okn (o : Nat) (q : Nat × Nat × Nat) : Bool := Nat.beq q.1 999999 || decide (lw_tbl[q.2.2]? = some (.classLink (am_cn o) q.1 (if q.2.1 < 8 then am_cn q.2.1 else "[[I")))
theorem am_okq_0 : am_allb (am_okq 0) mq_0 = true := by decide +kernel
theorem am_okl_0 : am_allb (am_okl 0) ml_0 = true := by decide +kernel
theorem am_okx_0 : am_allb (am_okx 0) ms_0 = true := by decide +kernel
theorem am_okn_0 : am_allb (am_okn 0) mn_0 = true := by decide +kernel
theorem am_okq_1 : am_allb (am_okq 1) mq_1 = true := by decide +kernel
theorem am_okl_1 : am_allb (am_okl 1) ml_1 = true := by decide +kernel
theorem am_okx_1 : am_allb (am_okx 1) ms_1 = true := by decide +kernel
theorem am_okn_1 : am_allb (am_okn 1) mn_1 = true := by decide +kernel
theorem am_okq_2 : am_allb (am_okq 2) mq_2 = true := by decide +kernel
theorem am_okl_2 : am_allb (am_okl 2) ml_2 = true := by decide +kernel
theorem am_okx_2 : am_allb (am_okx 2) ms_2 = true := by decide +kernel
theorem am_okn_2 : am_allb (am_okn 2) mn_2 = true := by decide +kernel
theorem am_okq_3 : am_allb (am_okq 3) mq_3 = true := by decide +kernel
theorem am_okl_3 : am_allb (am_okl 3) ml_3 = true := by decide +kernel
theorem am_okx_3 : am_allb (am_okx 3) ms_3 = true := by decide +kernel
theorem am_okn_3 : am_allb (am_okn 3) mn_3 = true := by decide +kernel
theorem am_okq_4 : am_allb (am_okq 4) mq_4 = true := by decide +kernel
theorem am_okl_4 : am_allb (am_okl 4) ml_4 = true := by decide +kernel
theorem am_okx_4 : am_allb (am_okx 4) ms_4 = true := by decide +kernel
theorem am_okn_4 : am_allb (am_okn 4) mn_4 = true := by decide +kernel
theorem am_okq_5 : am_allb (am_okq 5) mq_5 = true := by decide +kernel
theorem am_okl_5 : am_allb (am_okl 5) ml_5 = true := by decide +kernel
theorem am_okx_5 : am_allb (am_okx 5) ms_5 = true := by decide +kernel
theorem am_okn_5 : am_allb (am_okn 5) mn_5 = true := by decide +kernel
theorem am_okq_6 : am_allb (am_okq 6) mq_6 = true := by decide +kernel
theorem am_okl_6 : am_allb (am_okl 6) ml_6 = true := by decide +kernel
theorem am_okx_6 : am_allb (am_okx 6) ms_6 = true := by decide +kernel
theorem am_okn_6 : am_allb (am_okn 6) mn_6 = true := by decide +kernel
theorem am_okq_7 : am_allb (am_okq 7) mq_7 = true := by decide +kernel
theorem am_okl_7 : am_allb (am_okl 7) ml_7 = true := by decide +kernel
theorem am_okx_7 : am_allb (am_okx 7) ms_7 = true := by decide +kernel
theorem am_okn_7 : am_allb (am_okn 7) mn_7 = true := by decide +kernel
theorem am_okq_8 : am_allb (am_okq 8) mq_8 = true := by decide +kernel
theorem am_okl_8 : am_allb (am_okl 8) ml_8 = true := by decide +kernel
theorem am_okx_8 : am_allb (am_okx 8) ms_8 = true := by decide +kernel
theorem am_okn_8 : am_allb (am_okn 8) mn_8 = true := by decide +kernel
theorem am_okq_9 : am_allb (am_okq 9) mq_9 = true := by decide +kernel
theorem am_okl_9 : am_allb (am_okl 9) ml_9 = true := by decide +kernel
theorem am_okx_9 : am_allb (am_okx 9) ms_9 = true := by decide +kernel
theorem am_okn_9 : am_allb (am_okn 9) mn_9 = true := by decide +kernel
theorem am_okq_10 : am_allb (am_okq 10) mq_10 = true := by decide +kernel
theorem am_okl_10 : am_allb (am_okl 10) ml_10 = true := by decide +kernel
theorem am_okx_10 : am_allb (am_okx 10) ms_10 = true := by decide +kernel
theorem am_okn_10 : am_allb (am_okn 10) mn_10 = true := by decide +kernel
theorem am_okq_11 : am_allb (am_okq 11) mq_11 = true := by decide +kernel
theorem am_okl_11 : am_allb (am_okl 11) ml_11 = true := by decide +kernel
theorem am_okx_11 : am_allb (am_okx 11) ms_11 = true := by decide +kernel
theorem am_okn_11 : am_allb (am_okn 11) mn_11 = true := by decide +kernel
theorem am_cls_nf : ∀ ci, ci < 8 → (vwCl.getD ci (RX0, TX0, 0)).2.2 = am_nf ci ∧ (vwCl.getD ci (RX0, TX0, 0)).1 = am_cn ci := by decide +kernel
theorem am_in_0 : ∀ w ∈ u_ws RX0 TX0 3, w ∈ lw_tbl ∧ goodWord w = true := by decide +kernel
theorem am_in_1 : ∀ w ∈ u_ws RX1 TX1 15, w ∈ lw_tbl ∧ goodWord w = true := by decide +kernel
theorem am_in_2 : ∀ w ∈ u_ws RX2 TX2 3, w ∈ lw_tbl ∧ goodWord w = true := by decide +kernel
theorem am_in_3 : ∀ w ∈ u_ws RX3 TX3 7, w ∈ lw_tbl ∧ goodWord w = true := by decide +kernel
theorem am_in_4 : ∀ w ∈ u_ws RX4 TX4 5, w ∈ lw_tbl ∧ goodWord w = true := by decide +kernel
theorem am_in_5 : ∀ w ∈ u_ws RX5 TX5 8, w ∈ lw_tbl ∧ goodWord w = true := by decide +kernel
theorem am_in_6 : ∀ w ∈ u_ws RX6 TX6 10, w ∈ lw_tbl ∧ goodWord w = true := by decide +kernel
theorem am_in_7 : ∀ w ∈ u_ws RX7 TX7 30, w ∈ lw_tbl ∧ goodWord w = true := by decide +kernel
theorem am_ini_c : ∀ ci, ci < 8 → (Cond.instantiable (am_cn ci) (am_nf ci) ∈ lw_tbl ∧ Cond.initialized (am_cn ci) ∈ lw_tbl) := by decide +kernel
