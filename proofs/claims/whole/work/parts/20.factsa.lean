/-! THE TABLES' WORDS that the machine's tables speak of, by their places. -/
def nc_cn (n : Nat) : String := ([RX0, RX1, RX2, RX3, RX4, RX5, RX6, RX7, RX8, RX9, RX10, RX11, RX12, RJ6, RJ7][n]?).getD ""
abbrev nc_cl : List vw_C := [(RX0, TX0, 9), (RX1, TX1, 11), (RX2, TX2, 19), (RX3, TX3, 3), (RX4, TX4, 1), (RX5, TX5, 3), (RX6, TX6, 4), (RX7, TX7, 17), (RX8, TX8, 7), (RX9, TX9, 5), (RX10, TX10, 16), (RX11, TX11, 16), (RX12, TX12, 49)]
def nc_tk (k : Nat) : List Cond := match k with
  | 0 => k2_sels lw_privs
  | 1 => tables_1_1
  | 2 => tables_1_2
  | 3 => tables_1_3
  | 4 => tables_1_4
  | 5 => tables_1_5
  | 6 => tables_1_6
  | 7 => tables_1_7
  | 8 => tables_1_8
  | _ => tables_1_9
theorem nc_tk_in {k : Nat} {w : Cond} (h : w ∈ nc_tk k) : w ∈ lw_tbl := by
  unfold nc_tk at h
  unfold lw_tbl tables_1
  simp only [List.mem_append]
  split at h <;> simp [h]
/-- the words that stay true behind every step -/
def nc_tb : List Cond := lw_tbl.filter goodWord
abbrev nc_at (p : Nat × Nat) (w : Cond) : Prop := (nc_tk p.1)[p.2]? = some w
theorem nc_at_in {p : Nat × Nat} {w : Cond} (h : nc_at p w) (hg : goodWord w = true) : w ∈ nc_tb := List.mem_filter.mpr ⟨nc_tk_in (List.mem_of_getElem? h), hg⟩
theorem nc_good {w : Cond} (h : w ∈ nc_tb) : goodWord w = true := (List.mem_filter.mp h).2
theorem nc_tb_in {w : Cond} (h : w ∈ nc_tb) : w ∈ lw_tbl := (List.mem_filter.mp h).1
def nc_mq_l : List (Nat × Nat) := [(1, 2), (0, 1), (0, 1), (0, 0), (0, 0), (0, 1), (0, 1), (0, 3), (0, 1), (0, 0), (0, 1), (0, 1), (0, 2), (0, 3), (0, 1), (0, 0), (0, 1), (0, 0), (0, 2), (0, 0), (0, 3), (0, 2), (1, 2), (1, 1), (1, 1), (0, 1), (0, 1), (0, 1), (0, 4), (0, 0), (0, 1), (0, 0), (0, 1), (0, 1), (0, 0), (0, 0), (0, 1), (0, 0), (0, 0), (0, 0), (0, 1), (0, 1), (0, 1), (0, 1), (0, 1), (0, 2), (0, 0), (0, 1), (0, 1), (0, 1), (0, 1), (1, 3), (1, 2), (1, 2), (1, 1), (1, 1), (0, 1), (0, 0), (1, 1), (1, 1), (0, 1), (0, 1), (0, 1), (0, 0), (0, 2), (0, 0), (0, 2), (0, 1), (0, 1), (0, 1), (0, 0), (0, 0), (0, 0), (0, 0), (0, 0), (0, 0), (0, 1), (0, 0), (0, 3), (0, 0), (0, 0), (0, 0), (0, 1), (0, 3), (1, 1), (1, 2), (1, 2), (0, 1), (0, 3), (0, 2), (0, 3), (0, 1), (0, 2), (0, 1), (0, 1), (0, 4), (0, 1), (0, 2), (0, 2), (0, 0), (0, 0), (0, 3), (0, 3), (0, 3), (0, 3), (0, 3), (0, 3), (0, 3), (0, 3), (0, 3), (0, 3), (0, 3), (0, 3), (0, 3), (0, 3), (0, 3), (0, 3), (0, 3), (0, 3), (0, 3), (0, 3), (0, 3), (0, 3), (0, 3), (0, 3), (0, 3), (0, 3), (0, 3), (0, 4), (0, 4), (0, 4), (0, 1), (0, 1), (0, 0), (1, 3), (0, 0), (0, 2), (0, 0), (0, 2), (0, 0), (0, 1), (0, 1), (0, 2), (0, 1), (0, 1), (0, 2), (0, 1), (0, 1), (0, 1), (0, 1), (0, 1), (0, 1), (0, 2), (0, 2), (0, 1), (0, 2), (0, 0), (0, 1), (0, 2), (0, 2), (0, 2), (0, 0), (0, 0), (0, 0), (0, 0), (0, 0), (0, 0), (0, 0), (0, 1), (0, 1), (0, 1), (0, 0), (0, 3), (0, 1), (0, 2), (0, 3), (0, 2), (0, 5), (0, 0), (0, 2), (0, 2), (0, 1), (0, 2), (0, 1), (0, 2), (0, 2), (0, 1), (0, 1), (0, 0), (0, 1), (0, 1), (0, 2), (0, 1), (0, 2), (0, 1), (0, 2), (0, 1), (0, 1), (0, 3), (0, 1), (0, 2), (0, 1), (0, 2), (0, 1), (0, 3), (0, 1), (0, 0), (0, 1), (0, 1), (0, 1), (0, 5), (0, 0), (0, 1), (0, 2), (0, 3), (0, 1), (0, 2), (0, 2), (0, 0), (0, 0), (0, 0), (0, 0), (0, 0), (0, 1), (0, 1), (0, 1), (0, 1), (0, 1), (0, 1), (0, 2), (0, 3), (0, 2), (0, 1), (0, 2), (0, 2), (0, 1), (0, 2), (0, 1), (0, 2), (0, 2), (0, 1), (0, 1), (0, 1), (0, 2), (0, 0), (0, 1), (0, 2), (0, 1), (0, 1), (0, 2), (0, 2), (0, 2), (0, 1), (0, 2), (0, 1), (0, 3), (0, 2), (0, 1), (0, 1), (0, 3), (0, 2), (0, 1), (0, 1), (0, 1), (0, 1), (0, 2), (0, 1), (0, 2), (0, 2), (0, 3), (0, 0), (0, 3), (0, 1), (0, 1), (0, 1), (0, 0), (0, 0), (0, 0), (0, 0), (0, 0), (0, 4), (0, 1), (0, 1), (0, 1), (0, 1), (0, 1)]
/-- 0 for an instance's method, 1 for a static one; how many parameters -/
def nc_mq (M : Nat) : Nat × Nat := (nc_mq_l[M]?).getD (9, 0)
def nc_MF (M : Nat) : Prop := Cond.code (nc_y M) (nc_b M) (nc_mL M) (nc_rt (nc_rk M)) ∈ nc_tb ∧ (if (nc_mq M).1 = 0 then Cond.instanceMethod (nc_y M) else Cond.static (nc_y M)) ∈ nc_tb ∧ ((nc_mq M).1 = 1 ∨ Cond.selects (nc_y M).cls (nc_y M) (nc_y M) ∈ nc_tb) ∧ Cond.initialized (nc_y M).cls ∈ nc_tb ∧ (nc_y M).cls = nc_cn (nc_own M) ∧ (parseMethodDescriptor (nc_y M).desc).map (fun d => d.parameters.length) = some (nc_mq M).2 ∧ nc_mL M ≤ 45 ∧ nc_own M ≤ 14
theorem nc_pd_0 : (parseMethodDescriptor "()I").map (fun d => d.parameters.length) = some 0 := by decide +kernel
theorem nc_pd_1 : (parseMethodDescriptor "()V").map (fun d => d.parameters.length) = some 0 := by decide +kernel
theorem nc_pd_2 : (parseMethodDescriptor "()Z").map (fun d => d.parameters.length) = some 0 := by decide +kernel
theorem nc_pd_3 : (parseMethodDescriptor "(I)I").map (fun d => d.parameters.length) = some 1 := by decide +kernel
theorem nc_pd_4 : (parseMethodDescriptor "(I)V").map (fun d => d.parameters.length) = some 1 := by decide +kernel
theorem nc_pd_5 : (parseMethodDescriptor "(I)Z").map (fun d => d.parameters.length) = some 1 := by decide +kernel
theorem nc_pd_6 : (parseMethodDescriptor "(II)I").map (fun d => d.parameters.length) = some 2 := by decide +kernel
theorem nc_pd_7 : (parseMethodDescriptor "(II)V").map (fun d => d.parameters.length) = some 2 := by decide +kernel
theorem nc_pd_8 : (parseMethodDescriptor "(II)Z").map (fun d => d.parameters.length) = some 2 := by decide +kernel
theorem nc_pd_9 : (parseMethodDescriptor "(III)I").map (fun d => d.parameters.length) = some 3 := by decide +kernel
theorem nc_pd_10 : (parseMethodDescriptor "(III)V").map (fun d => d.parameters.length) = some 3 := by decide +kernel
theorem nc_pd_11 : (parseMethodDescriptor "(III)Z").map (fun d => d.parameters.length) = some 3 := by decide +kernel
theorem nc_pd_12 : (parseMethodDescriptor "(IIII)Z").map (fun d => d.parameters.length) = some 4 := by decide +kernel
theorem nc_pd_13 : (parseMethodDescriptor "(IIIII)I").map (fun d => d.parameters.length) = some 5 := by decide +kernel
theorem nc_pd_14 : (parseMethodDescriptor "(IIIJ)V").map (fun d => d.parameters.length) = some 4 := by decide +kernel
theorem nc_pd_15 : (parseMethodDescriptor "(J)I").map (fun d => d.parameters.length) = some 1 := by decide +kernel
theorem nc_pd_16 : (parseMethodDescriptor "(J)Z").map (fun d => d.parameters.length) = some 1 := by decide +kernel
theorem nc_pd_17 : (parseMethodDescriptor "(JI)J").map (fun d => d.parameters.length) = some 2 := by decide +kernel
theorem nc_pd_18 : (parseMethodDescriptor "(LNewsCows$Dairy;)V").map (fun d => d.parameters.length) = some 1 := by decide +kernel
theorem nc_pd_19 : (parseMethodDescriptor "(LNewsCows$Life;)I").map (fun d => d.parameters.length) = some 1 := by decide +kernel
theorem nc_pd_20 : (parseMethodDescriptor "(LNewsCows$Life;)V").map (fun d => d.parameters.length) = some 1 := by decide +kernel
theorem nc_pd_21 : (parseMethodDescriptor "(LNewsCows$Life;I)I").map (fun d => d.parameters.length) = some 2 := by decide +kernel
theorem nc_pd_22 : (parseMethodDescriptor "(LNewsCows$Life;I)Z").map (fun d => d.parameters.length) = some 2 := by decide +kernel
theorem nc_pd_23 : (parseMethodDescriptor "(LNewsCows$Life;II)I").map (fun d => d.parameters.length) = some 3 := by decide +kernel
theorem nc_pd_24 : (parseMethodDescriptor "(LNewsCows$Life;II)Z").map (fun d => d.parameters.length) = some 3 := by decide +kernel
theorem nc_pd_25 : (parseMethodDescriptor "(LNewsCows$Life;III)V").map (fun d => d.parameters.length) = some 4 := by decide +kernel
theorem nc_pd_26 : (parseMethodDescriptor "(LNewsCows$Sentence;)V").map (fun d => d.parameters.length) = some 1 := by decide +kernel
theorem nc_pd_27 : (parseMethodDescriptor "(LNewsCows$Tape;I)Z").map (fun d => d.parameters.length) = some 2 := by decide +kernel
theorem nc_pd_28 : (parseMethodDescriptor "(LNewsCows$Tape;II)I").map (fun d => d.parameters.length) = some 3 := by decide +kernel
theorem nc_pd_29 : (parseMethodDescriptor "(LNewsCows$Tape;LNewsCows$Dairy;)Z").map (fun d => d.parameters.length) = some 2 := by decide +kernel
theorem nc_pd_30 : (parseMethodDescriptor "(LNewsCows$Tape;LNewsCows$Dairy;I)I").map (fun d => d.parameters.length) = some 3 := by decide +kernel
theorem nc_pd_31 : (parseMethodDescriptor "(LNewsCows$Tape;LNewsCows$Dairy;I)Z").map (fun d => d.parameters.length) = some 3 := by decide +kernel
theorem nc_pd_32 : (parseMethodDescriptor "(Z)Z").map (fun d => d.parameters.length) = some 1 := by decide +kernel
theorem nc_pd_33 : (parseMethodDescriptor "([II)I").map (fun d => d.parameters.length) = some 2 := by decide +kernel
theorem nc_pd_34 : (parseMethodDescriptor "([II)V").map (fun d => d.parameters.length) = some 2 := by decide +kernel
theorem nc_pd_35 : (parseMethodDescriptor "([JJ)V").map (fun d => d.parameters.length) = some 2 := by decide +kernel
set_option maxRecDepth 100000 in
theorem nc_mf_0 : nc_MF 0 := ⟨nc_at_in (p := (5, 56)) rfl rfl, nc_at_in (p := (5, 55)) rfl rfl, Or.inl rfl, nc_at_in (p := (1, 14)) rfl rfl, rfl, nc_pd_6, Nat.le_of_ble_eq_true rfl, Nat.le_of_ble_eq_true rfl⟩
set_option maxRecDepth 100000 in
theorem nc_mf_1 : nc_MF 1 := ⟨nc_at_in (p := (5, 169)) rfl rfl, nc_at_in (p := (5, 168)) rfl rfl, Or.inr (nc_at_in (p := (0, 28)) rfl rfl), nc_at_in (p := (1, 14)) rfl rfl, rfl, nc_pd_4, Nat.le_of_ble_eq_true rfl, Nat.le_of_ble_eq_true rfl⟩
set_option maxRecDepth 100000 in
theorem nc_mf_2 : nc_MF 2 := ⟨nc_at_in (p := (4, 123)) rfl rfl, nc_at_in (p := (4, 121)) rfl rfl, Or.inr (nc_at_in (p := (4, 122)) rfl rfl), nc_at_in (p := (1, 7)) rfl rfl, rfl, nc_pd_5, Nat.le_of_ble_eq_true rfl, Nat.le_of_ble_eq_true rfl⟩
set_option maxRecDepth 100000 in
theorem nc_mf_3 : nc_MF 3 := ⟨nc_at_in (p := (5, 133)) rfl rfl, nc_at_in (p := (5, 131)) rfl rfl, Or.inr (nc_at_in (p := (5, 132)) rfl rfl), nc_at_in (p := (1, 7)) rfl rfl, rfl, nc_pd_0, Nat.le_of_ble_eq_true rfl, Nat.le_of_ble_eq_true rfl⟩
set_option maxRecDepth 100000 in
theorem nc_mf_4 : nc_MF 4 := ⟨nc_at_in (p := (5, 44)) rfl rfl, nc_at_in (p := (5, 42)) rfl rfl, Or.inr (nc_at_in (p := (5, 43)) rfl rfl), nc_at_in (p := (1, 7)) rfl rfl, rfl, nc_pd_0, Nat.le_of_ble_eq_true rfl, Nat.le_of_ble_eq_true rfl⟩
set_option maxRecDepth 100000 in
theorem nc_mf_5 : nc_MF 5 := ⟨nc_at_in (p := (4, 37)) rfl rfl, nc_at_in (p := (4, 36)) rfl rfl, Or.inr (nc_at_in (p := (0, 5)) rfl rfl), nc_at_in (p := (1, 7)) rfl rfl, rfl, nc_pd_15, Nat.le_of_ble_eq_true rfl, Nat.le_of_ble_eq_true rfl⟩
set_option maxRecDepth 100000 in
theorem nc_mf_6 : nc_MF 6 := ⟨nc_at_in (p := (4, 80)) rfl rfl, nc_at_in (p := (4, 78)) rfl rfl, Or.inr (nc_at_in (p := (4, 79)) rfl rfl), nc_at_in (p := (1, 7)) rfl rfl, rfl, nc_pd_3, Nat.le_of_ble_eq_true rfl, Nat.le_of_ble_eq_true rfl⟩
set_option maxRecDepth 100000 in
theorem nc_mf_7 : nc_MF 7 := ⟨nc_at_in (p := (5, 150)) rfl rfl, nc_at_in (p := (5, 149)) rfl rfl, Or.inr (nc_at_in (p := (0, 27)) rfl rfl), nc_at_in (p := (1, 7)) rfl rfl, rfl, nc_pd_11, Nat.le_of_ble_eq_true rfl, Nat.le_of_ble_eq_true rfl⟩
set_option maxRecDepth 100000 in
theorem nc_mf_8 : nc_MF 8 := ⟨nc_at_in (p := (5, 222)) rfl rfl, nc_at_in (p := (5, 221)) rfl rfl, Or.inr (nc_at_in (p := (0, 31)) rfl rfl), nc_at_in (p := (1, 16)) rfl rfl, rfl, nc_pd_3, Nat.le_of_ble_eq_true rfl, Nat.le_of_ble_eq_true rfl⟩
set_option maxRecDepth 100000 in
theorem nc_mf_9 : nc_MF 9 := ⟨nc_at_in (p := (4, 107)) rfl rfl, nc_at_in (p := (4, 105)) rfl rfl, Or.inr (nc_at_in (p := (4, 106)) rfl rfl), nc_at_in (p := (1, 11)) rfl rfl, rfl, nc_pd_1, Nat.le_of_ble_eq_true rfl, Nat.le_of_ble_eq_true rfl⟩
set_option maxRecDepth 100000 in
theorem nc_mf_10 : nc_MF 10 := ⟨nc_at_in (p := (4, 159)) rfl rfl, nc_at_in (p := (4, 157)) rfl rfl, Or.inr (nc_at_in (p := (4, 158)) rfl rfl), nc_at_in (p := (1, 9)) rfl rfl, rfl, nc_pd_5, Nat.le_of_ble_eq_true rfl, Nat.le_of_ble_eq_true rfl⟩
set_option maxRecDepth 100000 in
theorem nc_mf_11 : nc_MF 11 := ⟨nc_at_in (p := (4, 224)) rfl rfl, nc_at_in (p := (4, 222)) rfl rfl, Or.inr (nc_at_in (p := (4, 223)) rfl rfl), nc_at_in (p := (1, 9)) rfl rfl, rfl, nc_pd_5, Nat.le_of_ble_eq_true rfl, Nat.le_of_ble_eq_true rfl⟩
set_option maxRecDepth 100000 in
theorem nc_mf_12 : nc_MF 12 := ⟨nc_at_in (p := (4, 183)) rfl rfl, nc_at_in (p := (4, 182)) rfl rfl, Or.inr (nc_at_in (p := (0, 13)) rfl rfl), nc_at_in (p := (1, 9)) rfl rfl, rfl, nc_pd_7, Nat.le_of_ble_eq_true rfl, Nat.le_of_ble_eq_true rfl⟩
set_option maxRecDepth 100000 in
theorem nc_mf_13 : nc_MF 13 := ⟨nc_at_in (p := (4, 236)) rfl rfl, nc_at_in (p := (4, 234)) rfl rfl, Or.inr (nc_at_in (p := (4, 235)) rfl rfl), nc_at_in (p := (1, 9)) rfl rfl, rfl, nc_pd_9, Nat.le_of_ble_eq_true rfl, Nat.le_of_ble_eq_true rfl⟩
set_option maxRecDepth 100000 in
theorem nc_mf_14 : nc_MF 14 := ⟨nc_at_in (p := (4, 232)) rfl rfl, nc_at_in (p := (4, 230)) rfl rfl, Or.inr (nc_at_in (p := (4, 231)) rfl rfl), nc_at_in (p := (1, 9)) rfl rfl, rfl, nc_pd_3, Nat.le_of_ble_eq_true rfl, Nat.le_of_ble_eq_true rfl⟩
set_option maxRecDepth 100000 in
theorem nc_mf_15 : nc_MF 15 := ⟨nc_at_in (p := (4, 139)) rfl rfl, nc_at_in (p := (4, 137)) rfl rfl, Or.inr (nc_at_in (p := (4, 138)) rfl rfl), nc_at_in (p := (1, 9)) rfl rfl, rfl, nc_pd_0, Nat.le_of_ble_eq_true rfl, Nat.le_of_ble_eq_true rfl⟩
set_option maxRecDepth 100000 in
theorem nc_mf_16 : nc_MF 16 := ⟨nc_at_in (p := (5, 14)) rfl rfl, nc_at_in (p := (5, 13)) rfl rfl, Or.inr (nc_at_in (p := (0, 17)) rfl rfl), nc_at_in (p := (1, 9)) rfl rfl, rfl, nc_pd_4, Nat.le_of_ble_eq_true rfl, Nat.le_of_ble_eq_true rfl⟩
set_option maxRecDepth 100000 in
theorem nc_mf_17 : nc_MF 17 := ⟨nc_at_in (p := (4, 135)) rfl rfl, nc_at_in (p := (4, 133)) rfl rfl, Or.inr (nc_at_in (p := (4, 134)) rfl rfl), nc_at_in (p := (1, 9)) rfl rfl, rfl, nc_pd_0, Nat.le_of_ble_eq_true rfl, Nat.le_of_ble_eq_true rfl⟩
set_option maxRecDepth 100000 in
theorem nc_mf_18 : nc_MF 18 := ⟨nc_at_in (p := (5, 202)) rfl rfl, nc_at_in (p := (5, 200)) rfl rfl, Or.inr (nc_at_in (p := (5, 201)) rfl rfl), nc_at_in (p := (1, 9)) rfl rfl, rfl, nc_pd_6, Nat.le_of_ble_eq_true rfl, Nat.le_of_ble_eq_true rfl⟩
set_option maxRecDepth 100000 in
theorem nc_mf_19 : nc_MF 19 := ⟨nc_at_in (p := (4, 103)) rfl rfl, nc_at_in (p := (4, 101)) rfl rfl, Or.inr (nc_at_in (p := (4, 102)) rfl rfl), nc_at_in (p := (1, 12)) rfl rfl, rfl, nc_pd_1, Nat.le_of_ble_eq_true rfl, Nat.le_of_ble_eq_true rfl⟩
set_option maxRecDepth 100000 in
theorem nc_mf_20 : nc_MF 20 := ⟨nc_at_in (p := (6, 67)) rfl rfl, nc_at_in (p := (6, 66)) rfl rfl, Or.inr (nc_at_in (p := (0, 38)) rfl rfl), nc_at_in (p := (1, 12)) rfl rfl, rfl, nc_pd_10, Nat.le_of_ble_eq_true rfl, Nat.le_of_ble_eq_true rfl⟩
set_option maxRecDepth 100000 in
theorem nc_mf_21 : nc_MF 21 := ⟨nc_at_in (p := (6, 98)) rfl rfl, nc_at_in (p := (6, 97)) rfl rfl, Or.inr (nc_at_in (p := (0, 41)) rfl rfl), nc_at_in (p := (1, 12)) rfl rfl, rfl, nc_pd_8, Nat.le_of_ble_eq_true rfl, Nat.le_of_ble_eq_true rfl⟩
set_option maxRecDepth 100000 in
theorem nc_mf_22 : nc_MF 22 := ⟨nc_at_in (p := (1, 92)) rfl rfl, nc_at_in (p := (1, 91)) rfl rfl, Or.inl rfl, nc_at_in (p := (1, 2)) rfl rfl, rfl, nc_pd_17, Nat.le_of_ble_eq_true rfl, Nat.le_of_ble_eq_true rfl⟩
set_option maxRecDepth 100000 in
theorem nc_mf_23 : nc_MF 23 := ⟨nc_at_in (p := (3, 170)) rfl rfl, nc_at_in (p := (3, 169)) rfl rfl, Or.inl rfl, nc_at_in (p := (1, 2)) rfl rfl, rfl, nc_pd_5, Nat.le_of_ble_eq_true rfl, Nat.le_of_ble_eq_true rfl⟩
set_option maxRecDepth 100000 in
theorem nc_mf_24 : nc_MF 24 := ⟨nc_at_in (p := (3, 173)) rfl rfl, nc_at_in (p := (3, 172)) rfl rfl, Or.inl rfl, nc_at_in (p := (1, 2)) rfl rfl, rfl, nc_pd_5, Nat.le_of_ble_eq_true rfl, Nat.le_of_ble_eq_true rfl⟩
set_option maxRecDepth 100000 in
theorem nc_mf_25 : nc_MF 25 := ⟨nc_at_in (p := (3, 136)) rfl rfl, nc_at_in (p := (3, 134)) rfl rfl, Or.inr (nc_at_in (p := (3, 135)) rfl rfl), nc_at_in (p := (1, 2)) rfl rfl, rfl, nc_pd_4, Nat.le_of_ble_eq_true rfl, Nat.le_of_ble_eq_true rfl⟩
set_option maxRecDepth 100000 in
theorem nc_mf_26 : nc_MF 26 := ⟨nc_at_in (p := (3, 167)) rfl rfl, nc_at_in (p := (3, 165)) rfl rfl, Or.inr (nc_at_in (p := (3, 166)) rfl rfl), nc_at_in (p := (1, 2)) rfl rfl, rfl, nc_pd_3, Nat.le_of_ble_eq_true rfl, Nat.le_of_ble_eq_true rfl⟩
set_option maxRecDepth 100000 in
theorem nc_mf_27 : nc_MF 27 := ⟨nc_at_in (p := (3, 181)) rfl rfl, nc_at_in (p := (3, 180)) rfl rfl, Or.inr (nc_at_in (p := (0, 1)) rfl rfl), nc_at_in (p := (1, 2)) rfl rfl, rfl, nc_pd_15, Nat.le_of_ble_eq_true rfl, Nat.le_of_ble_eq_true rfl⟩
set_option maxRecDepth 100000 in
theorem nc_mf_28 : nc_MF 28 := ⟨nc_at_in (p := (3, 185)) rfl rfl, nc_at_in (p := (3, 184)) rfl rfl, Or.inr (nc_at_in (p := (0, 2)) rfl rfl), nc_at_in (p := (1, 2)) rfl rfl, rfl, nc_pd_14, Nat.le_of_ble_eq_true rfl, Nat.le_of_ble_eq_true rfl⟩
set_option maxRecDepth 100000 in
theorem nc_mf_29 : nc_MF 29 := ⟨nc_at_in (p := (4, 11)) rfl rfl, nc_at_in (p := (4, 9)) rfl rfl, Or.inr (nc_at_in (p := (4, 10)) rfl rfl), nc_at_in (p := (1, 2)) rfl rfl, rfl, nc_pd_1, Nat.le_of_ble_eq_true rfl, Nat.le_of_ble_eq_true rfl⟩
set_option maxRecDepth 100000 in
theorem nc_mf_30 : nc_MF 30 := ⟨nc_at_in (p := (4, 27)) rfl rfl, nc_at_in (p := (4, 25)) rfl rfl, Or.inr (nc_at_in (p := (4, 26)) rfl rfl), nc_at_in (p := (1, 2)) rfl rfl, rfl, nc_pd_5, Nat.le_of_ble_eq_true rfl, Nat.le_of_ble_eq_true rfl⟩
set_option maxRecDepth 100000 in
theorem nc_mf_31 : nc_MF 31 := ⟨nc_at_in (p := (4, 19)) rfl rfl, nc_at_in (p := (4, 17)) rfl rfl, Or.inr (nc_at_in (p := (4, 18)) rfl rfl), nc_at_in (p := (1, 2)) rfl rfl, rfl, nc_pd_0, Nat.le_of_ble_eq_true rfl, Nat.le_of_ble_eq_true rfl⟩
set_option maxRecDepth 100000 in
theorem nc_mf_32 : nc_MF 32 := ⟨nc_at_in (p := (4, 49)) rfl rfl, nc_at_in (p := (4, 47)) rfl rfl, Or.inr (nc_at_in (p := (4, 48)) rfl rfl), nc_at_in (p := (1, 2)) rfl rfl, rfl, nc_pd_5, Nat.le_of_ble_eq_true rfl, Nat.le_of_ble_eq_true rfl⟩
set_option maxRecDepth 100000 in
theorem nc_mf_33 : nc_MF 33 := ⟨nc_at_in (p := (3, 140)) rfl rfl, nc_at_in (p := (3, 138)) rfl rfl, Or.inr (nc_at_in (p := (3, 139)) rfl rfl), nc_at_in (p := (1, 1)) rfl rfl, rfl, nc_pd_5, Nat.le_of_ble_eq_true rfl, Nat.le_of_ble_eq_true rfl⟩
set_option maxRecDepth 100000 in
theorem nc_mf_34 : nc_MF 34 := ⟨nc_at_in (p := (4, 111)) rfl rfl, nc_at_in (p := (4, 109)) rfl rfl, Or.inr (nc_at_in (p := (4, 110)) rfl rfl), nc_at_in (p := (1, 1)) rfl rfl, rfl, nc_pd_0, Nat.le_of_ble_eq_true rfl, Nat.le_of_ble_eq_true rfl⟩
set_option maxRecDepth 100000 in
theorem nc_mf_35 : nc_MF 35 := ⟨nc_at_in (p := (5, 77)) rfl rfl, nc_at_in (p := (5, 75)) rfl rfl, Or.inr (nc_at_in (p := (5, 76)) rfl rfl), nc_at_in (p := (1, 1)) rfl rfl, rfl, nc_pd_0, Nat.le_of_ble_eq_true rfl, Nat.le_of_ble_eq_true rfl⟩
set_option maxRecDepth 100000 in
theorem nc_mf_36 : nc_MF 36 := ⟨nc_at_in (p := (5, 122)) rfl rfl, nc_at_in (p := (5, 120)) rfl rfl, Or.inr (nc_at_in (p := (5, 121)) rfl rfl), nc_at_in (p := (1, 1)) rfl rfl, rfl, nc_pd_3, Nat.le_of_ble_eq_true rfl, Nat.le_of_ble_eq_true rfl⟩
set_option maxRecDepth 100000 in
theorem nc_mf_37 : nc_MF 37 := ⟨nc_at_in (p := (5, 155)) rfl rfl, nc_at_in (p := (5, 153)) rfl rfl, Or.inr (nc_at_in (p := (5, 154)) rfl rfl), nc_at_in (p := (1, 1)) rfl rfl, rfl, nc_pd_0, Nat.le_of_ble_eq_true rfl, Nat.le_of_ble_eq_true rfl⟩
set_option maxRecDepth 100000 in
theorem nc_mf_38 : nc_MF 38 := ⟨nc_at_in (p := (5, 180)) rfl rfl, nc_at_in (p := (5, 178)) rfl rfl, Or.inr (nc_at_in (p := (5, 179)) rfl rfl), nc_at_in (p := (1, 1)) rfl rfl, rfl, nc_pd_0, Nat.le_of_ble_eq_true rfl, Nat.le_of_ble_eq_true rfl⟩
set_option maxRecDepth 100000 in
theorem nc_mf_39 : nc_MF 39 := ⟨nc_at_in (p := (5, 184)) rfl rfl, nc_at_in (p := (5, 182)) rfl rfl, Or.inr (nc_at_in (p := (5, 183)) rfl rfl), nc_at_in (p := (1, 1)) rfl rfl, rfl, nc_pd_0, Nat.le_of_ble_eq_true rfl, Nat.le_of_ble_eq_true rfl⟩
set_option maxRecDepth 100000 in
theorem nc_mf_40 : nc_MF 40 := ⟨nc_at_in (p := (6, 36)) rfl rfl, nc_at_in (p := (6, 34)) rfl rfl, Or.inr (nc_at_in (p := (6, 35)) rfl rfl), nc_at_in (p := (1, 1)) rfl rfl, rfl, nc_pd_3, Nat.le_of_ble_eq_true rfl, Nat.le_of_ble_eq_true rfl⟩
set_option maxRecDepth 100000 in
theorem nc_mf_41 : nc_MF 41 := ⟨nc_at_in (p := (6, 110)) rfl rfl, nc_at_in (p := (6, 108)) rfl rfl, Or.inr (nc_at_in (p := (6, 109)) rfl rfl), nc_at_in (p := (1, 1)) rfl rfl, rfl, nc_pd_3, Nat.le_of_ble_eq_true rfl, Nat.le_of_ble_eq_true rfl⟩
set_option maxRecDepth 100000 in
theorem nc_mf_42 : nc_MF 42 := ⟨nc_at_in (p := (5, 141)) rfl rfl, nc_at_in (p := (5, 140)) rfl rfl, Or.inr (nc_at_in (p := (0, 26)) rfl rfl), nc_at_in (p := (1, 1)) rfl rfl, rfl, nc_pd_5, Nat.le_of_ble_eq_true rfl, Nat.le_of_ble_eq_true rfl⟩
set_option maxRecDepth 100000 in
theorem nc_mf_43 : nc_MF 43 := ⟨nc_at_in (p := (4, 151)) rfl rfl, nc_at_in (p := (4, 150)) rfl rfl, Or.inr (nc_at_in (p := (0, 12)) rfl rfl), nc_at_in (p := (1, 1)) rfl rfl, rfl, nc_pd_5, Nat.le_of_ble_eq_true rfl, Nat.le_of_ble_eq_true rfl⟩
set_option maxRecDepth 100000 in
theorem nc_mf_44 : nc_MF 44 := ⟨nc_at_in (p := (4, 119)) rfl rfl, nc_at_in (p := (4, 118)) rfl rfl, Or.inr (nc_at_in (p := (0, 10)) rfl rfl), nc_at_in (p := (1, 1)) rfl rfl, rfl, nc_pd_5, Nat.le_of_ble_eq_true rfl, Nat.le_of_ble_eq_true rfl⟩
set_option maxRecDepth 100000 in
theorem nc_mf_45 : nc_MF 45 := ⟨nc_at_in (p := (4, 127)) rfl rfl, nc_at_in (p := (4, 126)) rfl rfl, Or.inr (nc_at_in (p := (0, 11)) rfl rfl), nc_at_in (p := (1, 1)) rfl rfl, rfl, nc_pd_33, Nat.le_of_ble_eq_true rfl, Nat.le_of_ble_eq_true rfl⟩
set_option maxRecDepth 100000 in
theorem nc_mf_46 : nc_MF 46 := ⟨nc_at_in (p := (6, 197)) rfl rfl, nc_at_in (p := (6, 195)) rfl rfl, Or.inr (nc_at_in (p := (6, 196)) rfl rfl), nc_at_in (p := (1, 18)) rfl rfl, rfl, nc_pd_0, Nat.le_of_ble_eq_true rfl, Nat.le_of_ble_eq_true rfl⟩
set_option maxRecDepth 100000 in
theorem nc_mf_47 : nc_MF 47 := ⟨nc_at_in (p := (8, 9)) rfl rfl, nc_at_in (p := (8, 8)) rfl rfl, Or.inr (nc_at_in (p := (0, 64)) rfl rfl), nc_at_in (p := (1, 18)) rfl rfl, rfl, nc_pd_32, Nat.le_of_ble_eq_true rfl, Nat.le_of_ble_eq_true rfl⟩
set_option maxRecDepth 100000 in
theorem nc_mf_48 : nc_MF 48 := ⟨nc_at_in (p := (6, 206)) rfl rfl, nc_at_in (p := (6, 204)) rfl rfl, Or.inr (nc_at_in (p := (0, 44)) rfl rfl), nc_at_in (p := (1, 18)) rfl rfl, rfl, nc_pd_4, Nat.le_of_ble_eq_true rfl, Nat.le_of_ble_eq_true rfl⟩
set_option maxRecDepth 100000 in
theorem nc_mf_49 : nc_MF 49 := ⟨nc_at_in (p := (6, 210)) rfl rfl, nc_at_in (p := (6, 208)) rfl rfl, Or.inr (nc_at_in (p := (6, 209)) rfl rfl), nc_at_in (p := (1, 18)) rfl rfl, rfl, nc_pd_5, Nat.le_of_ble_eq_true rfl, Nat.le_of_ble_eq_true rfl⟩
set_option maxRecDepth 100000 in
theorem nc_mf_50 : nc_MF 50 := ⟨nc_at_in (p := (7, 156)) rfl rfl, nc_at_in (p := (7, 155)) rfl rfl, Or.inr (nc_at_in (p := (0, 45)) rfl rfl), nc_at_in (p := (1, 18)) rfl rfl, rfl, nc_pd_4, Nat.le_of_ble_eq_true rfl, Nat.le_of_ble_eq_true rfl⟩
set_option maxRecDepth 100000 in
theorem nc_mf_51 : nc_MF 51 := ⟨nc_at_in (p := (7, 213)) rfl rfl, nc_at_in (p := (7, 212)) rfl rfl, Or.inl rfl, nc_at_in (p := (1, 18)) rfl rfl, rfl, nc_pd_11, Nat.le_of_ble_eq_true rfl, Nat.le_of_ble_eq_true rfl⟩
set_option maxRecDepth 100000 in
theorem nc_mf_52 : nc_MF 52 := ⟨nc_at_in (p := (8, 16)) rfl rfl, nc_at_in (p := (8, 15)) rfl rfl, Or.inl rfl, nc_at_in (p := (1, 18)) rfl rfl, rfl, nc_pd_8, Nat.le_of_ble_eq_true rfl, Nat.le_of_ble_eq_true rfl⟩
set_option maxRecDepth 100000 in
theorem nc_mf_53 : nc_MF 53 := ⟨nc_at_in (p := (8, 51)) rfl rfl, nc_at_in (p := (8, 50)) rfl rfl, Or.inl rfl, nc_at_in (p := (1, 18)) rfl rfl, rfl, nc_pd_6, Nat.le_of_ble_eq_true rfl, Nat.le_of_ble_eq_true rfl⟩
set_option maxRecDepth 100000 in
theorem nc_mf_54 : nc_MF 54 := ⟨nc_at_in (p := (8, 229)) rfl rfl, nc_at_in (p := (8, 228)) rfl rfl, Or.inl rfl, nc_at_in (p := (1, 18)) rfl rfl, rfl, nc_pd_3, Nat.le_of_ble_eq_true rfl, Nat.le_of_ble_eq_true rfl⟩
set_option maxRecDepth 100000 in
theorem nc_mf_55 : nc_MF 55 := ⟨nc_at_in (p := (8, 98)) rfl rfl, nc_at_in (p := (8, 97)) rfl rfl, Or.inl rfl, nc_at_in (p := (1, 18)) rfl rfl, rfl, nc_pd_3, Nat.le_of_ble_eq_true rfl, Nat.le_of_ble_eq_true rfl⟩
set_option maxRecDepth 100000 in
theorem nc_mf_56 : nc_MF 56 := ⟨nc_at_in (p := (8, 226)) rfl rfl, nc_at_in (p := (8, 225)) rfl rfl, Or.inr (nc_at_in (p := (0, 98)) rfl rfl), nc_at_in (p := (1, 18)) rfl rfl, rfl, nc_pd_3, Nat.le_of_ble_eq_true rfl, Nat.le_of_ble_eq_true rfl⟩
set_option maxRecDepth 100000 in
theorem nc_mf_57 : nc_MF 57 := ⟨nc_at_in (p := (7, 164)) rfl rfl, nc_at_in (p := (7, 163)) rfl rfl, Or.inr (nc_at_in (p := (0, 47)) rfl rfl), nc_at_in (p := (1, 18)) rfl rfl, rfl, nc_pd_0, Nat.le_of_ble_eq_true rfl, Nat.le_of_ble_eq_true rfl⟩
set_option maxRecDepth 100000 in
theorem nc_mf_58 : nc_MF 58 := ⟨nc_at_in (p := (7, 167)) rfl rfl, nc_at_in (p := (7, 166)) rfl rfl, Or.inl rfl, nc_at_in (p := (1, 18)) rfl rfl, rfl, nc_pd_5, Nat.le_of_ble_eq_true rfl, Nat.le_of_ble_eq_true rfl⟩
set_option maxRecDepth 100000 in
theorem nc_mf_59 : nc_MF 59 := ⟨nc_at_in (p := (7, 170)) rfl rfl, nc_at_in (p := (7, 169)) rfl rfl, Or.inl rfl, nc_at_in (p := (1, 18)) rfl rfl, rfl, nc_pd_5, Nat.le_of_ble_eq_true rfl, Nat.le_of_ble_eq_true rfl⟩
set_option maxRecDepth 100000 in
theorem nc_mf_60 : nc_MF 60 := ⟨nc_at_in (p := (7, 182)) rfl rfl, nc_at_in (p := (7, 181)) rfl rfl, Or.inr (nc_at_in (p := (0, 50)) rfl rfl), nc_at_in (p := (1, 18)) rfl rfl, rfl, nc_pd_5, Nat.le_of_ble_eq_true rfl, Nat.le_of_ble_eq_true rfl⟩
set_option maxRecDepth 100000 in
theorem nc_mf_61 : nc_MF 61 := ⟨nc_at_in (p := (7, 178)) rfl rfl, nc_at_in (p := (7, 177)) rfl rfl, Or.inr (nc_at_in (p := (0, 49)) rfl rfl), nc_at_in (p := (1, 18)) rfl rfl, rfl, nc_pd_16, Nat.le_of_ble_eq_true rfl, Nat.le_of_ble_eq_true rfl⟩
set_option maxRecDepth 100000 in
theorem nc_mf_62 : nc_MF 62 := ⟨nc_at_in (p := (7, 233)) rfl rfl, nc_at_in (p := (7, 232)) rfl rfl, Or.inr (nc_at_in (p := (0, 62)) rfl rfl), nc_at_in (p := (1, 18)) rfl rfl, rfl, nc_pd_5, Nat.le_of_ble_eq_true rfl, Nat.le_of_ble_eq_true rfl⟩
set_option maxRecDepth 100000 in
theorem nc_mf_63 : nc_MF 63 := ⟨nc_at_in (p := (7, 190)) rfl rfl, nc_at_in (p := (7, 189)) rfl rfl, Or.inr (nc_at_in (p := (0, 52)) rfl rfl), nc_at_in (p := (1, 18)) rfl rfl, rfl, nc_pd_2, Nat.le_of_ble_eq_true rfl, Nat.le_of_ble_eq_true rfl⟩
set_option maxRecDepth 100000 in
theorem nc_mf_64 : nc_MF 64 := ⟨nc_at_in (p := (7, 194)) rfl rfl, nc_at_in (p := (7, 193)) rfl rfl, Or.inr (nc_at_in (p := (0, 53)) rfl rfl), nc_at_in (p := (1, 18)) rfl rfl, rfl, nc_pd_6, Nat.le_of_ble_eq_true rfl, Nat.le_of_ble_eq_true rfl⟩
set_option maxRecDepth 100000 in
theorem nc_mf_65 : nc_MF 65 := ⟨nc_at_in (p := (7, 237)) rfl rfl, nc_at_in (p := (7, 235)) rfl rfl, Or.inr (nc_at_in (p := (7, 236)) rfl rfl), nc_at_in (p := (1, 18)) rfl rfl, rfl, nc_pd_0, Nat.le_of_ble_eq_true rfl, Nat.le_of_ble_eq_true rfl⟩
set_option maxRecDepth 100000 in
theorem nc_mf_66 : nc_MF 66 := ⟨nc_at_in (p := (8, 28)) rfl rfl, nc_at_in (p := (8, 27)) rfl rfl, Or.inr (nc_at_in (p := (0, 68)) rfl rfl), nc_at_in (p := (1, 18)) rfl rfl, rfl, nc_pd_8, Nat.le_of_ble_eq_true rfl, Nat.le_of_ble_eq_true rfl⟩
set_option maxRecDepth 100000 in
theorem nc_mf_67 : nc_MF 67 := ⟨nc_at_in (p := (8, 20)) rfl rfl, nc_at_in (p := (8, 19)) rfl rfl, Or.inr (nc_at_in (p := (0, 66)) rfl rfl), nc_at_in (p := (1, 18)) rfl rfl, rfl, nc_pd_5, Nat.le_of_ble_eq_true rfl, Nat.le_of_ble_eq_true rfl⟩
set_option maxRecDepth 100000 in
theorem nc_mf_68 : nc_MF 68 := ⟨nc_at_in (p := (8, 71)) rfl rfl, nc_at_in (p := (8, 70)) rfl rfl, Or.inr (nc_at_in (p := (0, 76)) rfl rfl), nc_at_in (p := (1, 18)) rfl rfl, rfl, nc_pd_3, Nat.le_of_ble_eq_true rfl, Nat.le_of_ble_eq_true rfl⟩
set_option maxRecDepth 100000 in
theorem nc_mf_69 : nc_MF 69 := ⟨nc_at_in (p := (8, 83)) rfl rfl, nc_at_in (p := (8, 82)) rfl rfl, Or.inr (nc_at_in (p := (0, 78)) rfl rfl), nc_at_in (p := (1, 18)) rfl rfl, rfl, nc_pd_5, Nat.le_of_ble_eq_true rfl, Nat.le_of_ble_eq_true rfl⟩
set_option maxRecDepth 100000 in
theorem nc_mf_70 : nc_MF 70 := ⟨nc_at_in (p := (8, 87)) rfl rfl, nc_at_in (p := (8, 86)) rfl rfl, Or.inr (nc_at_in (p := (0, 79)) rfl rfl), nc_at_in (p := (1, 18)) rfl rfl, rfl, nc_pd_0, Nat.le_of_ble_eq_true rfl, Nat.le_of_ble_eq_true rfl⟩
set_option maxRecDepth 100000 in
theorem nc_mf_71 : nc_MF 71 := ⟨nc_at_in (p := (8, 102)) rfl rfl, nc_at_in (p := (8, 101)) rfl rfl, Or.inr (nc_at_in (p := (0, 81)) rfl rfl), nc_at_in (p := (1, 18)) rfl rfl, rfl, nc_pd_1, Nat.le_of_ble_eq_true rfl, Nat.le_of_ble_eq_true rfl⟩
set_option maxRecDepth 100000 in
theorem nc_mf_72 : nc_MF 72 := ⟨nc_at_in (p := (8, 142)) rfl rfl, nc_at_in (p := (8, 140)) rfl rfl, Or.inr (nc_at_in (p := (8, 141)) rfl rfl), nc_at_in (p := (1, 18)) rfl rfl, rfl, nc_pd_0, Nat.le_of_ble_eq_true rfl, Nat.le_of_ble_eq_true rfl⟩
set_option maxRecDepth 100000 in
theorem nc_mf_73 : nc_MF 73 := ⟨nc_at_in (p := (8, 186)) rfl rfl, nc_at_in (p := (8, 185)) rfl rfl, Or.inr (nc_at_in (p := (0, 93)) rfl rfl), nc_at_in (p := (1, 18)) rfl rfl, rfl, nc_pd_1, Nat.le_of_ble_eq_true rfl, Nat.le_of_ble_eq_true rfl⟩
set_option maxRecDepth 100000 in
theorem nc_mf_74 : nc_MF 74 := ⟨nc_at_in (p := (8, 198)) rfl rfl, nc_at_in (p := (8, 197)) rfl rfl, Or.inr (nc_at_in (p := (0, 96)) rfl rfl), nc_at_in (p := (1, 18)) rfl rfl, rfl, nc_pd_1, Nat.le_of_ble_eq_true rfl, Nat.le_of_ble_eq_true rfl⟩
set_option maxRecDepth 100000 in
theorem nc_mf_75 : nc_MF 75 := ⟨nc_at_in (p := (8, 154)) rfl rfl, nc_at_in (p := (8, 153)) rfl rfl, Or.inr (nc_at_in (p := (0, 89)) rfl rfl), nc_at_in (p := (1, 18)) rfl rfl, rfl, nc_pd_0, Nat.le_of_ble_eq_true rfl, Nat.le_of_ble_eq_true rfl⟩
set_option maxRecDepth 100000 in
theorem nc_mf_76 : nc_MF 76 := ⟨nc_at_in (p := (8, 166)) rfl rfl, nc_at_in (p := (8, 165)) rfl rfl, Or.inr (nc_at_in (p := (0, 92)) rfl rfl), nc_at_in (p := (1, 18)) rfl rfl, rfl, nc_pd_4, Nat.le_of_ble_eq_true rfl, Nat.le_of_ble_eq_true rfl⟩
set_option maxRecDepth 100000 in
theorem nc_mf_77 : nc_MF 77 := ⟨nc_at_in (p := (8, 174)) rfl rfl, nc_at_in (p := (8, 172)) rfl rfl, Or.inr (nc_at_in (p := (8, 173)) rfl rfl), nc_at_in (p := (1, 18)) rfl rfl, rfl, nc_pd_0, Nat.le_of_ble_eq_true rfl, Nat.le_of_ble_eq_true rfl⟩
set_option maxRecDepth 100000 in
theorem nc_mf_78 : nc_MF 78 := ⟨nc_at_in (p := (8, 194)) rfl rfl, nc_at_in (p := (8, 193)) rfl rfl, Or.inr (nc_at_in (p := (0, 95)) rfl rfl), nc_at_in (p := (1, 18)) rfl rfl, rfl, nc_pd_9, Nat.le_of_ble_eq_true rfl, Nat.le_of_ble_eq_true rfl⟩
set_option maxRecDepth 100000 in
theorem nc_mf_79 : nc_MF 79 := ⟨nc_at_in (p := (8, 218)) rfl rfl, nc_at_in (p := (8, 216)) rfl rfl, Or.inr (nc_at_in (p := (8, 217)) rfl rfl), nc_at_in (p := (1, 18)) rfl rfl, rfl, nc_pd_0, Nat.le_of_ble_eq_true rfl, Nat.le_of_ble_eq_true rfl⟩
set_option maxRecDepth 100000 in
theorem nc_mf_80 : nc_MF 80 := ⟨nc_at_in (p := (8, 233)) rfl rfl, nc_at_in (p := (8, 231)) rfl rfl, Or.inr (nc_at_in (p := (8, 232)) rfl rfl), nc_at_in (p := (1, 18)) rfl rfl, rfl, nc_pd_0, Nat.le_of_ble_eq_true rfl, Nat.le_of_ble_eq_true rfl⟩
set_option maxRecDepth 100000 in
theorem nc_mf_81 : nc_MF 81 := ⟨nc_at_in (p := (8, 237)) rfl rfl, nc_at_in (p := (8, 235)) rfl rfl, Or.inr (nc_at_in (p := (8, 236)) rfl rfl), nc_at_in (p := (1, 18)) rfl rfl, rfl, nc_pd_0, Nat.le_of_ble_eq_true rfl, Nat.le_of_ble_eq_true rfl⟩
set_option maxRecDepth 100000 in
theorem nc_mf_82 : nc_MF 82 := ⟨nc_at_in (p := (9, 29)) rfl rfl, nc_at_in (p := (9, 28)) rfl rfl, Or.inr (nc_at_in (p := (0, 101)) rfl rfl), nc_at_in (p := (1, 18)) rfl rfl, rfl, nc_pd_3, Nat.le_of_ble_eq_true rfl, Nat.le_of_ble_eq_true rfl⟩
set_option maxRecDepth 100000 in
theorem nc_mf_83 : nc_MF 83 := ⟨nc_at_in (p := (9, 62)) rfl rfl, nc_at_in (p := (9, 61)) rfl rfl, Or.inr (nc_at_in (p := (0, 105)) rfl rfl), nc_at_in (p := (1, 18)) rfl rfl, rfl, nc_pd_10, Nat.le_of_ble_eq_true rfl, Nat.le_of_ble_eq_true rfl⟩
set_option maxRecDepth 100000 in
theorem nc_mf_84 : nc_MF 84 := ⟨nc_at_in (p := (4, 162)) rfl rfl, nc_at_in (p := (4, 161)) rfl rfl, Or.inl rfl, nc_at_in (p := (1, 26)) rfl rfl, rfl, nc_pd_3, Nat.le_of_ble_eq_true rfl, Nat.le_of_ble_eq_true rfl⟩
set_option maxRecDepth 100000 in
theorem nc_mf_85 : nc_MF 85 := ⟨nc_at_in (p := (3, 155)) rfl rfl, nc_at_in (p := (3, 154)) rfl rfl, Or.inl rfl, nc_at_in (p := (1, 10)) rfl rfl, rfl, nc_pd_35, Nat.le_of_ble_eq_true rfl, Nat.le_of_ble_eq_true rfl⟩
set_option maxRecDepth 100000 in
theorem nc_mf_86 : nc_MF 86 := ⟨nc_at_in (p := (2, 52)) rfl rfl, nc_at_in (p := (2, 51)) rfl rfl, Or.inl rfl, nc_at_in (p := (1, 10)) rfl rfl, rfl, nc_pd_34, Nat.le_of_ble_eq_true rfl, Nat.le_of_ble_eq_true rfl⟩
set_option maxRecDepth 100000 in
theorem nc_mf_87 : nc_MF 87 := ⟨nc_at_in (p := (4, 45)) rfl rfl, nc_at_in (p := (4, 43)) rfl rfl, Or.inr (nc_at_in (p := (4, 44)) rfl rfl), nc_at_in (p := (1, 2)) rfl rfl, rfl, nc_pd_5, Nat.le_of_ble_eq_true rfl, Nat.le_of_ble_eq_true rfl⟩
set_option maxRecDepth 100000 in
theorem nc_mf_88 : nc_MF 88 := ⟨nc_at_in (p := (4, 59)) rfl rfl, nc_at_in (p := (4, 57)) rfl rfl, Or.inr (nc_at_in (p := (4, 58)) rfl rfl), nc_at_in (p := (1, 7)) rfl rfl, rfl, nc_pd_28, Nat.le_of_ble_eq_true rfl, Nat.le_of_ble_eq_true rfl⟩
set_option maxRecDepth 100000 in
theorem nc_mf_89 : nc_MF 89 := ⟨nc_at_in (p := (4, 63)) rfl rfl, nc_at_in (p := (4, 61)) rfl rfl, Or.inr (nc_at_in (p := (4, 62)) rfl rfl), nc_at_in (p := (1, 2)) rfl rfl, rfl, nc_pd_8, Nat.le_of_ble_eq_true rfl, Nat.le_of_ble_eq_true rfl⟩
set_option maxRecDepth 100000 in
theorem nc_mf_90 : nc_MF 90 := ⟨nc_at_in (p := (6, 71)) rfl rfl, nc_at_in (p := (6, 70)) rfl rfl, Or.inr (nc_at_in (p := (0, 39)) rfl rfl), nc_at_in (p := (1, 12)) rfl rfl, rfl, nc_pd_31, Nat.le_of_ble_eq_true rfl, Nat.le_of_ble_eq_true rfl⟩
set_option maxRecDepth 100000 in
theorem nc_mf_91 : nc_MF 91 := ⟨nc_at_in (p := (4, 228)) rfl rfl, nc_at_in (p := (4, 226)) rfl rfl, Or.inr (nc_at_in (p := (4, 227)) rfl rfl), nc_at_in (p := (1, 9)) rfl rfl, rfl, nc_pd_3, Nat.le_of_ble_eq_true rfl, Nat.le_of_ble_eq_true rfl⟩
set_option maxRecDepth 100000 in
theorem nc_mf_92 : nc_MF 92 := ⟨nc_at_in (p := (4, 155)) rfl rfl, nc_at_in (p := (4, 153)) rfl rfl, Or.inr (nc_at_in (p := (4, 154)) rfl rfl), nc_at_in (p := (1, 9)) rfl rfl, rfl, nc_pd_6, Nat.le_of_ble_eq_true rfl, Nat.le_of_ble_eq_true rfl⟩
set_option maxRecDepth 100000 in
theorem nc_mf_93 : nc_MF 93 := ⟨nc_at_in (p := (5, 112)) rfl rfl, nc_at_in (p := (5, 111)) rfl rfl, Or.inr (nc_at_in (p := (0, 25)) rfl rfl), nc_at_in (p := (1, 15)) rfl rfl, rfl, nc_pd_4, Nat.le_of_ble_eq_true rfl, Nat.le_of_ble_eq_true rfl⟩
set_option maxRecDepth 100000 in
theorem nc_mf_94 : nc_MF 94 := ⟨nc_at_in (p := (4, 220)) rfl rfl, nc_at_in (p := (4, 218)) rfl rfl, Or.inr (nc_at_in (p := (4, 219)) rfl rfl), nc_at_in (p := (1, 9)) rfl rfl, rfl, nc_pd_3, Nat.le_of_ble_eq_true rfl, Nat.le_of_ble_eq_true rfl⟩
set_option maxRecDepth 100000 in
theorem nc_mf_95 : nc_MF 95 := ⟨nc_at_in (p := (5, 101)) rfl rfl, nc_at_in (p := (5, 100)) rfl rfl, Or.inr (nc_at_in (p := (0, 24)) rfl rfl), nc_at_in (p := (1, 15)) rfl rfl, rfl, nc_pd_25, Nat.le_of_ble_eq_true rfl, Nat.le_of_ble_eq_true rfl⟩
set_option maxRecDepth 100000 in
theorem nc_mf_96 : nc_MF 96 := ⟨nc_at_in (p := (4, 173)) rfl rfl, nc_at_in (p := (4, 171)) rfl rfl, Or.inr (nc_at_in (p := (4, 172)) rfl rfl), nc_at_in (p := (1, 9)) rfl rfl, rfl, nc_pd_20, Nat.le_of_ble_eq_true rfl, Nat.le_of_ble_eq_true rfl⟩
set_option maxRecDepth 100000 in
theorem nc_mf_97 : nc_MF 97 := ⟨nc_at_in (p := (4, 179)) rfl rfl, nc_at_in (p := (4, 177)) rfl rfl, Or.inr (nc_at_in (p := (4, 178)) rfl rfl), nc_at_in (p := (1, 9)) rfl rfl, rfl, nc_pd_7, Nat.le_of_ble_eq_true rfl, Nat.le_of_ble_eq_true rfl⟩
set_option maxRecDepth 100000 in
theorem nc_mf_98 : nc_MF 98 := ⟨nc_at_in (p := (5, 6)) rfl rfl, nc_at_in (p := (5, 5)) rfl rfl, Or.inr (nc_at_in (p := (0, 16)) rfl rfl), nc_at_in (p := (1, 9)) rfl rfl, rfl, nc_pd_7, Nat.le_of_ble_eq_true rfl, Nat.le_of_ble_eq_true rfl⟩
set_option maxRecDepth 100000 in
theorem nc_mf_99 : nc_MF 99 := ⟨nc_at_in (p := (5, 1)) rfl rfl, nc_at_in (p := (4, 239)) rfl rfl, Or.inr (nc_at_in (p := (5, 0)) rfl rfl), nc_at_in (p := (1, 9)) rfl rfl, rfl, nc_pd_1, Nat.le_of_ble_eq_true rfl, Nat.le_of_ble_eq_true rfl⟩
set_option maxRecDepth 100000 in
theorem nc_mf_100 : nc_MF 100 := ⟨nc_at_in (p := (5, 10)) rfl rfl, nc_at_in (p := (5, 8)) rfl rfl, Or.inr (nc_at_in (p := (5, 9)) rfl rfl), nc_at_in (p := (1, 9)) rfl rfl, rfl, nc_pd_1, Nat.le_of_ble_eq_true rfl, Nat.le_of_ble_eq_true rfl⟩
set_option maxRecDepth 100000 in
theorem nc_mf_101 : nc_MF 101 := ⟨nc_at_in (p := (6, 59)) rfl rfl, nc_at_in (p := (6, 58)) rfl rfl, Or.inr (nc_at_in (p := (0, 37)) rfl rfl), nc_at_in (p := (1, 12)) rfl rfl, rfl, nc_pd_31, Nat.le_of_ble_eq_true rfl, Nat.le_of_ble_eq_true rfl⟩
set_option maxRecDepth 100000 in
theorem nc_mf_102 : nc_MF 102 := ⟨nc_at_in (p := (6, 55)) rfl rfl, nc_at_in (p := (6, 54)) rfl rfl, Or.inr (nc_at_in (p := (0, 36)) rfl rfl), nc_at_in (p := (1, 12)) rfl rfl, rfl, nc_pd_31, Nat.le_of_ble_eq_true rfl, Nat.le_of_ble_eq_true rfl⟩
set_option maxRecDepth 100000 in
theorem nc_mf_103 : nc_MF 103 := ⟨nc_at_in (p := (6, 51)) rfl rfl, nc_at_in (p := (6, 50)) rfl rfl, Or.inr (nc_at_in (p := (0, 35)) rfl rfl), nc_at_in (p := (1, 12)) rfl rfl, rfl, nc_pd_31, Nat.le_of_ble_eq_true rfl, Nat.le_of_ble_eq_true rfl⟩
set_option maxRecDepth 100000 in
theorem nc_mf_104 : nc_MF 104 := ⟨nc_at_in (p := (6, 59)) rfl rfl, nc_at_in (p := (6, 58)) rfl rfl, Or.inr (nc_at_in (p := (0, 37)) rfl rfl), nc_at_in (p := (1, 12)) rfl rfl, rfl, nc_pd_31, Nat.le_of_ble_eq_true rfl, Nat.le_of_ble_eq_true rfl⟩
set_option maxRecDepth 100000 in
theorem nc_mf_105 : nc_MF 105 := ⟨nc_at_in (p := (6, 55)) rfl rfl, nc_at_in (p := (6, 54)) rfl rfl, Or.inr (nc_at_in (p := (0, 36)) rfl rfl), nc_at_in (p := (1, 12)) rfl rfl, rfl, nc_pd_31, Nat.le_of_ble_eq_true rfl, Nat.le_of_ble_eq_true rfl⟩
set_option maxRecDepth 100000 in
theorem nc_mf_106 : nc_MF 106 := ⟨nc_at_in (p := (6, 51)) rfl rfl, nc_at_in (p := (6, 50)) rfl rfl, Or.inr (nc_at_in (p := (0, 35)) rfl rfl), nc_at_in (p := (1, 12)) rfl rfl, rfl, nc_pd_31, Nat.le_of_ble_eq_true rfl, Nat.le_of_ble_eq_true rfl⟩
set_option maxRecDepth 100000 in
theorem nc_mf_107 : nc_MF 107 := ⟨nc_at_in (p := (6, 59)) rfl rfl, nc_at_in (p := (6, 58)) rfl rfl, Or.inr (nc_at_in (p := (0, 37)) rfl rfl), nc_at_in (p := (1, 12)) rfl rfl, rfl, nc_pd_31, Nat.le_of_ble_eq_true rfl, Nat.le_of_ble_eq_true rfl⟩
set_option maxRecDepth 100000 in
theorem nc_mf_108 : nc_MF 108 := ⟨nc_at_in (p := (6, 55)) rfl rfl, nc_at_in (p := (6, 54)) rfl rfl, Or.inr (nc_at_in (p := (0, 36)) rfl rfl), nc_at_in (p := (1, 12)) rfl rfl, rfl, nc_pd_31, Nat.le_of_ble_eq_true rfl, Nat.le_of_ble_eq_true rfl⟩
set_option maxRecDepth 100000 in
theorem nc_mf_109 : nc_MF 109 := ⟨nc_at_in (p := (6, 51)) rfl rfl, nc_at_in (p := (6, 50)) rfl rfl, Or.inr (nc_at_in (p := (0, 35)) rfl rfl), nc_at_in (p := (1, 12)) rfl rfl, rfl, nc_pd_31, Nat.le_of_ble_eq_true rfl, Nat.le_of_ble_eq_true rfl⟩
set_option maxRecDepth 100000 in
theorem nc_mf_110 : nc_MF 110 := ⟨nc_at_in (p := (6, 59)) rfl rfl, nc_at_in (p := (6, 58)) rfl rfl, Or.inr (nc_at_in (p := (0, 37)) rfl rfl), nc_at_in (p := (1, 12)) rfl rfl, rfl, nc_pd_31, Nat.le_of_ble_eq_true rfl, Nat.le_of_ble_eq_true rfl⟩
set_option maxRecDepth 100000 in
theorem nc_mf_111 : nc_MF 111 := ⟨nc_at_in (p := (6, 55)) rfl rfl, nc_at_in (p := (6, 54)) rfl rfl, Or.inr (nc_at_in (p := (0, 36)) rfl rfl), nc_at_in (p := (1, 12)) rfl rfl, rfl, nc_pd_31, Nat.le_of_ble_eq_true rfl, Nat.le_of_ble_eq_true rfl⟩
set_option maxRecDepth 100000 in
theorem nc_mf_112 : nc_MF 112 := ⟨nc_at_in (p := (6, 51)) rfl rfl, nc_at_in (p := (6, 50)) rfl rfl, Or.inr (nc_at_in (p := (0, 35)) rfl rfl), nc_at_in (p := (1, 12)) rfl rfl, rfl, nc_pd_31, Nat.le_of_ble_eq_true rfl, Nat.le_of_ble_eq_true rfl⟩
set_option maxRecDepth 100000 in
theorem nc_mf_113 : nc_MF 113 := ⟨nc_at_in (p := (6, 59)) rfl rfl, nc_at_in (p := (6, 58)) rfl rfl, Or.inr (nc_at_in (p := (0, 37)) rfl rfl), nc_at_in (p := (1, 12)) rfl rfl, rfl, nc_pd_31, Nat.le_of_ble_eq_true rfl, Nat.le_of_ble_eq_true rfl⟩
set_option maxRecDepth 100000 in
theorem nc_mf_114 : nc_MF 114 := ⟨nc_at_in (p := (6, 55)) rfl rfl, nc_at_in (p := (6, 54)) rfl rfl, Or.inr (nc_at_in (p := (0, 36)) rfl rfl), nc_at_in (p := (1, 12)) rfl rfl, rfl, nc_pd_31, Nat.le_of_ble_eq_true rfl, Nat.le_of_ble_eq_true rfl⟩
set_option maxRecDepth 100000 in
theorem nc_mf_115 : nc_MF 115 := ⟨nc_at_in (p := (6, 51)) rfl rfl, nc_at_in (p := (6, 50)) rfl rfl, Or.inr (nc_at_in (p := (0, 35)) rfl rfl), nc_at_in (p := (1, 12)) rfl rfl, rfl, nc_pd_31, Nat.le_of_ble_eq_true rfl, Nat.le_of_ble_eq_true rfl⟩
set_option maxRecDepth 100000 in
theorem nc_mf_116 : nc_MF 116 := ⟨nc_at_in (p := (6, 59)) rfl rfl, nc_at_in (p := (6, 58)) rfl rfl, Or.inr (nc_at_in (p := (0, 37)) rfl rfl), nc_at_in (p := (1, 12)) rfl rfl, rfl, nc_pd_31, Nat.le_of_ble_eq_true rfl, Nat.le_of_ble_eq_true rfl⟩
set_option maxRecDepth 100000 in
theorem nc_mf_117 : nc_MF 117 := ⟨nc_at_in (p := (6, 55)) rfl rfl, nc_at_in (p := (6, 54)) rfl rfl, Or.inr (nc_at_in (p := (0, 36)) rfl rfl), nc_at_in (p := (1, 12)) rfl rfl, rfl, nc_pd_31, Nat.le_of_ble_eq_true rfl, Nat.le_of_ble_eq_true rfl⟩
set_option maxRecDepth 100000 in
theorem nc_mf_118 : nc_MF 118 := ⟨nc_at_in (p := (6, 51)) rfl rfl, nc_at_in (p := (6, 50)) rfl rfl, Or.inr (nc_at_in (p := (0, 35)) rfl rfl), nc_at_in (p := (1, 12)) rfl rfl, rfl, nc_pd_31, Nat.le_of_ble_eq_true rfl, Nat.le_of_ble_eq_true rfl⟩
set_option maxRecDepth 100000 in
theorem nc_mf_119 : nc_MF 119 := ⟨nc_at_in (p := (6, 59)) rfl rfl, nc_at_in (p := (6, 58)) rfl rfl, Or.inr (nc_at_in (p := (0, 37)) rfl rfl), nc_at_in (p := (1, 12)) rfl rfl, rfl, nc_pd_31, Nat.le_of_ble_eq_true rfl, Nat.le_of_ble_eq_true rfl⟩
set_option maxRecDepth 100000 in
theorem nc_mf_120 : nc_MF 120 := ⟨nc_at_in (p := (6, 55)) rfl rfl, nc_at_in (p := (6, 54)) rfl rfl, Or.inr (nc_at_in (p := (0, 36)) rfl rfl), nc_at_in (p := (1, 12)) rfl rfl, rfl, nc_pd_31, Nat.le_of_ble_eq_true rfl, Nat.le_of_ble_eq_true rfl⟩
set_option maxRecDepth 100000 in
theorem nc_mf_121 : nc_MF 121 := ⟨nc_at_in (p := (6, 51)) rfl rfl, nc_at_in (p := (6, 50)) rfl rfl, Or.inr (nc_at_in (p := (0, 35)) rfl rfl), nc_at_in (p := (1, 12)) rfl rfl, rfl, nc_pd_31, Nat.le_of_ble_eq_true rfl, Nat.le_of_ble_eq_true rfl⟩
set_option maxRecDepth 100000 in
theorem nc_mf_122 : nc_MF 122 := ⟨nc_at_in (p := (6, 59)) rfl rfl, nc_at_in (p := (6, 58)) rfl rfl, Or.inr (nc_at_in (p := (0, 37)) rfl rfl), nc_at_in (p := (1, 12)) rfl rfl, rfl, nc_pd_31, Nat.le_of_ble_eq_true rfl, Nat.le_of_ble_eq_true rfl⟩
set_option maxRecDepth 100000 in
theorem nc_mf_123 : nc_MF 123 := ⟨nc_at_in (p := (6, 55)) rfl rfl, nc_at_in (p := (6, 54)) rfl rfl, Or.inr (nc_at_in (p := (0, 36)) rfl rfl), nc_at_in (p := (1, 12)) rfl rfl, rfl, nc_pd_31, Nat.le_of_ble_eq_true rfl, Nat.le_of_ble_eq_true rfl⟩
set_option maxRecDepth 100000 in
theorem nc_mf_124 : nc_MF 124 := ⟨nc_at_in (p := (6, 51)) rfl rfl, nc_at_in (p := (6, 50)) rfl rfl, Or.inr (nc_at_in (p := (0, 35)) rfl rfl), nc_at_in (p := (1, 12)) rfl rfl, rfl, nc_pd_31, Nat.le_of_ble_eq_true rfl, Nat.le_of_ble_eq_true rfl⟩
set_option maxRecDepth 100000 in
theorem nc_mf_125 : nc_MF 125 := ⟨nc_at_in (p := (6, 59)) rfl rfl, nc_at_in (p := (6, 58)) rfl rfl, Or.inr (nc_at_in (p := (0, 37)) rfl rfl), nc_at_in (p := (1, 12)) rfl rfl, rfl, nc_pd_31, Nat.le_of_ble_eq_true rfl, Nat.le_of_ble_eq_true rfl⟩
set_option maxRecDepth 100000 in
theorem nc_mf_126 : nc_MF 126 := ⟨nc_at_in (p := (6, 55)) rfl rfl, nc_at_in (p := (6, 54)) rfl rfl, Or.inr (nc_at_in (p := (0, 36)) rfl rfl), nc_at_in (p := (1, 12)) rfl rfl, rfl, nc_pd_31, Nat.le_of_ble_eq_true rfl, Nat.le_of_ble_eq_true rfl⟩
set_option maxRecDepth 100000 in
theorem nc_mf_127 : nc_MF 127 := ⟨nc_at_in (p := (6, 51)) rfl rfl, nc_at_in (p := (6, 50)) rfl rfl, Or.inr (nc_at_in (p := (0, 35)) rfl rfl), nc_at_in (p := (1, 12)) rfl rfl, rfl, nc_pd_31, Nat.le_of_ble_eq_true rfl, Nat.le_of_ble_eq_true rfl⟩
set_option maxRecDepth 100000 in
theorem nc_mf_128 : nc_MF 128 := ⟨nc_at_in (p := (5, 97)) rfl rfl, nc_at_in (p := (5, 96)) rfl rfl, Or.inr (nc_at_in (p := (0, 23)) rfl rfl), nc_at_in (p := (1, 15)) rfl rfl, rfl, nc_pd_25, Nat.le_of_ble_eq_true rfl, Nat.le_of_ble_eq_true rfl⟩
set_option maxRecDepth 100000 in
theorem nc_mf_129 : nc_MF 129 := ⟨nc_at_in (p := (5, 97)) rfl rfl, nc_at_in (p := (5, 96)) rfl rfl, Or.inr (nc_at_in (p := (0, 23)) rfl rfl), nc_at_in (p := (1, 15)) rfl rfl, rfl, nc_pd_25, Nat.le_of_ble_eq_true rfl, Nat.le_of_ble_eq_true rfl⟩
set_option maxRecDepth 100000 in
theorem nc_mf_130 : nc_MF 130 := ⟨nc_at_in (p := (5, 97)) rfl rfl, nc_at_in (p := (5, 96)) rfl rfl, Or.inr (nc_at_in (p := (0, 23)) rfl rfl), nc_at_in (p := (1, 15)) rfl rfl, rfl, nc_pd_25, Nat.le_of_ble_eq_true rfl, Nat.le_of_ble_eq_true rfl⟩
set_option maxRecDepth 100000 in
theorem nc_mf_131 : nc_MF 131 := ⟨nc_at_in (p := (3, 177)) rfl rfl, nc_at_in (p := (3, 176)) rfl rfl, Or.inr (nc_at_in (p := (0, 0)) rfl rfl), nc_at_in (p := (1, 2)) rfl rfl, rfl, nc_pd_3, Nat.le_of_ble_eq_true rfl, Nat.le_of_ble_eq_true rfl⟩
set_option maxRecDepth 100000 in
theorem nc_mf_132 : nc_MF 132 := ⟨nc_at_in (p := (3, 160)) rfl rfl, nc_at_in (p := (3, 158)) rfl rfl, Or.inr (nc_at_in (p := (3, 159)) rfl rfl), nc_at_in (p := (1, 2)) rfl rfl, rfl, nc_pd_4, Nat.le_of_ble_eq_true rfl, Nat.le_of_ble_eq_true rfl⟩
set_option maxRecDepth 100000 in
theorem nc_mf_133 : nc_MF 133 := ⟨nc_at_in (p := (4, 7)) rfl rfl, nc_at_in (p := (4, 5)) rfl rfl, Or.inr (nc_at_in (p := (4, 6)) rfl rfl), nc_at_in (p := (1, 2)) rfl rfl, rfl, nc_pd_2, Nat.le_of_ble_eq_true rfl, Nat.le_of_ble_eq_true rfl⟩
set_option maxRecDepth 100000 in
theorem nc_mf_134 : nc_MF 134 := ⟨nc_at_in (p := (6, 16)) rfl rfl, nc_at_in (p := (6, 15)) rfl rfl, Or.inl rfl, nc_at_in (p := (1, 13)) rfl rfl, rfl, nc_pd_30, Nat.le_of_ble_eq_true rfl, Nat.le_of_ble_eq_true rfl⟩
set_option maxRecDepth 100000 in
theorem nc_mf_135 : nc_MF 135 := ⟨nc_at_in (p := (4, 41)) rfl rfl, nc_at_in (p := (4, 39)) rfl rfl, Or.inr (nc_at_in (p := (4, 40)) rfl rfl), nc_at_in (p := (1, 2)) rfl rfl, rfl, nc_pd_2, Nat.le_of_ble_eq_true rfl, Nat.le_of_ble_eq_true rfl⟩
set_option maxRecDepth 100000 in
theorem nc_mf_136 : nc_MF 136 := ⟨nc_at_in (p := (6, 9)) rfl rfl, nc_at_in (p := (6, 8)) rfl rfl, Or.inr (nc_at_in (p := (0, 33)) rfl rfl), nc_at_in (p := (1, 13)) rfl rfl, rfl, nc_pd_29, Nat.le_of_ble_eq_true rfl, Nat.le_of_ble_eq_true rfl⟩
set_option maxRecDepth 100000 in
theorem nc_mf_137 : nc_MF 137 := ⟨nc_at_in (p := (4, 88)) rfl rfl, nc_at_in (p := (4, 86)) rfl rfl, Or.inr (nc_at_in (p := (4, 87)) rfl rfl), nc_at_in (p := (1, 2)) rfl rfl, rfl, nc_pd_2, Nat.le_of_ble_eq_true rfl, Nat.le_of_ble_eq_true rfl⟩
set_option maxRecDepth 100000 in
theorem nc_mf_138 : nc_MF 138 := ⟨nc_at_in (p := (6, 3)) rfl rfl, nc_at_in (p := (6, 1)) rfl rfl, Or.inr (nc_at_in (p := (6, 2)) rfl rfl), nc_at_in (p := (1, 13)) rfl rfl, rfl, nc_pd_29, Nat.le_of_ble_eq_true rfl, Nat.le_of_ble_eq_true rfl⟩
set_option maxRecDepth 100000 in
theorem nc_mf_139 : nc_MF 139 := ⟨nc_at_in (p := (4, 216)) rfl rfl, nc_at_in (p := (4, 215)) rfl rfl, Or.inr (nc_at_in (p := (0, 15)) rfl rfl), nc_at_in (p := (1, 9)) rfl rfl, rfl, nc_pd_1, Nat.le_of_ble_eq_true rfl, Nat.le_of_ble_eq_true rfl⟩
set_option maxRecDepth 100000 in
theorem nc_mf_140 : nc_MF 140 := ⟨nc_at_in (p := (4, 212)) rfl rfl, nc_at_in (p := (4, 210)) rfl rfl, Or.inr (nc_at_in (p := (4, 211)) rfl rfl), nc_at_in (p := (1, 9)) rfl rfl, rfl, nc_pd_3, Nat.le_of_ble_eq_true rfl, Nat.le_of_ble_eq_true rfl⟩
set_option maxRecDepth 100000 in
theorem nc_mf_141 : nc_MF 141 := ⟨nc_at_in (p := (4, 191)) rfl rfl, nc_at_in (p := (4, 189)) rfl rfl, Or.inr (nc_at_in (p := (4, 190)) rfl rfl), nc_at_in (p := (1, 9)) rfl rfl, rfl, nc_pd_3, Nat.le_of_ble_eq_true rfl, Nat.le_of_ble_eq_true rfl⟩
set_option maxRecDepth 100000 in
theorem nc_mf_142 : nc_MF 142 := ⟨nc_at_in (p := (4, 204)) rfl rfl, nc_at_in (p := (4, 203)) rfl rfl, Or.inr (nc_at_in (p := (0, 14)) rfl rfl), nc_at_in (p := (1, 9)) rfl rfl, rfl, nc_pd_8, Nat.le_of_ble_eq_true rfl, Nat.le_of_ble_eq_true rfl⟩
set_option maxRecDepth 100000 in
theorem nc_mf_143 : nc_MF 143 := ⟨nc_at_in (p := (4, 200)) rfl rfl, nc_at_in (p := (4, 198)) rfl rfl, Or.inr (nc_at_in (p := (4, 199)) rfl rfl), nc_at_in (p := (1, 9)) rfl rfl, rfl, nc_pd_3, Nat.le_of_ble_eq_true rfl, Nat.le_of_ble_eq_true rfl⟩
set_option maxRecDepth 100000 in
theorem nc_mf_144 : nc_MF 144 := ⟨nc_at_in (p := (4, 196)) rfl rfl, nc_at_in (p := (4, 194)) rfl rfl, Or.inr (nc_at_in (p := (4, 195)) rfl rfl), nc_at_in (p := (1, 9)) rfl rfl, rfl, nc_pd_4, Nat.le_of_ble_eq_true rfl, Nat.le_of_ble_eq_true rfl⟩
set_option maxRecDepth 100000 in
theorem nc_mf_145 : nc_MF 145 := ⟨nc_at_in (p := (6, 27)) rfl rfl, nc_at_in (p := (6, 26)) rfl rfl, Or.inr (nc_at_in (p := (0, 34)) rfl rfl), nc_at_in (p := (1, 13)) rfl rfl, rfl, nc_pd_21, Nat.le_of_ble_eq_true rfl, Nat.le_of_ble_eq_true rfl⟩
set_option maxRecDepth 100000 in
theorem nc_mf_146 : nc_MF 146 := ⟨nc_at_in (p := (6, 23)) rfl rfl, nc_at_in (p := (6, 21)) rfl rfl, Or.inr (nc_at_in (p := (6, 22)) rfl rfl), nc_at_in (p := (1, 13)) rfl rfl, rfl, nc_pd_19, Nat.le_of_ble_eq_true rfl, Nat.le_of_ble_eq_true rfl⟩
set_option maxRecDepth 100000 in
theorem nc_mf_147 : nc_MF 147 := ⟨nc_at_in (p := (5, 40)) rfl rfl, nc_at_in (p := (5, 39)) rfl rfl, Or.inr (nc_at_in (p := (0, 19)) rfl rfl), nc_at_in (p := (1, 14)) rfl rfl, rfl, nc_pd_4, Nat.le_of_ble_eq_true rfl, Nat.le_of_ble_eq_true rfl⟩
set_option maxRecDepth 100000 in
theorem nc_mf_148 : nc_MF 148 := ⟨nc_at_in (p := (5, 60)) rfl rfl, nc_at_in (p := (5, 59)) rfl rfl, Or.inr (nc_at_in (p := (0, 21)) rfl rfl), nc_at_in (p := (1, 14)) rfl rfl, rfl, nc_pd_3, Nat.le_of_ble_eq_true rfl, Nat.le_of_ble_eq_true rfl⟩
set_option maxRecDepth 100000 in
theorem nc_mf_149 : nc_MF 149 := ⟨nc_at_in (p := (5, 53)) rfl rfl, nc_at_in (p := (5, 52)) rfl rfl, Or.inr (nc_at_in (p := (0, 20)) rfl rfl), nc_at_in (p := (1, 14)) rfl rfl, rfl, nc_pd_3, Nat.le_of_ble_eq_true rfl, Nat.le_of_ble_eq_true rfl⟩
set_option maxRecDepth 100000 in
theorem nc_mf_150 : nc_MF 150 := ⟨nc_at_in (p := (5, 36)) rfl rfl, nc_at_in (p := (5, 34)) rfl rfl, Or.inr (nc_at_in (p := (5, 35)) rfl rfl), nc_at_in (p := (1, 14)) rfl rfl, rfl, nc_pd_3, Nat.le_of_ble_eq_true rfl, Nat.le_of_ble_eq_true rfl⟩
set_option maxRecDepth 100000 in
theorem nc_mf_151 : nc_MF 151 := ⟨nc_at_in (p := (5, 85)) rfl rfl, nc_at_in (p := (5, 83)) rfl rfl, Or.inr (nc_at_in (p := (5, 84)) rfl rfl), nc_at_in (p := (1, 14)) rfl rfl, rfl, nc_pd_3, Nat.le_of_ble_eq_true rfl, Nat.le_of_ble_eq_true rfl⟩
set_option maxRecDepth 100000 in
theorem nc_mf_152 : nc_MF 152 := ⟨nc_at_in (p := (5, 73)) rfl rfl, nc_at_in (p := (5, 72)) rfl rfl, Or.inr (nc_at_in (p := (0, 22)) rfl rfl), nc_at_in (p := (1, 14)) rfl rfl, rfl, nc_pd_8, Nat.le_of_ble_eq_true rfl, Nat.le_of_ble_eq_true rfl⟩
set_option maxRecDepth 100000 in
theorem nc_mf_153 : nc_MF 153 := ⟨nc_at_in (p := (5, 69)) rfl rfl, nc_at_in (p := (5, 67)) rfl rfl, Or.inr (nc_at_in (p := (5, 68)) rfl rfl), nc_at_in (p := (1, 14)) rfl rfl, rfl, nc_pd_6, Nat.le_of_ble_eq_true rfl, Nat.le_of_ble_eq_true rfl⟩
set_option maxRecDepth 100000 in
theorem nc_mf_154 : nc_MF 154 := ⟨nc_at_in (p := (5, 173)) rfl rfl, nc_at_in (p := (5, 172)) rfl rfl, Or.inr (nc_at_in (p := (0, 29)) rfl rfl), nc_at_in (p := (1, 14)) rfl rfl, rfl, nc_pd_3, Nat.le_of_ble_eq_true rfl, Nat.le_of_ble_eq_true rfl⟩
set_option maxRecDepth 100000 in
theorem nc_mf_155 : nc_MF 155 := ⟨nc_at_in (p := (5, 164)) rfl rfl, nc_at_in (p := (5, 162)) rfl rfl, Or.inr (nc_at_in (p := (5, 163)) rfl rfl), nc_at_in (p := (1, 14)) rfl rfl, rfl, nc_pd_6, Nat.le_of_ble_eq_true rfl, Nat.le_of_ble_eq_true rfl⟩
set_option maxRecDepth 100000 in
theorem nc_mf_156 : nc_MF 156 := ⟨nc_at_in (p := (3, 152)) rfl rfl, nc_at_in (p := (3, 150)) rfl rfl, Or.inr (nc_at_in (p := (3, 151)) rfl rfl), nc_at_in (p := (1, 7)) rfl rfl, rfl, nc_pd_1, Nat.le_of_ble_eq_true rfl, Nat.le_of_ble_eq_true rfl⟩
set_option maxRecDepth 100000 in
theorem nc_mf_157 : nc_MF 157 := ⟨nc_at_in (p := (4, 92)) rfl rfl, nc_at_in (p := (4, 90)) rfl rfl, Or.inr (nc_at_in (p := (4, 91)) rfl rfl), nc_at_in (p := (1, 7)) rfl rfl, rfl, nc_pd_18, Nat.le_of_ble_eq_true rfl, Nat.le_of_ble_eq_true rfl⟩
set_option maxRecDepth 100000 in
theorem nc_mf_158 : nc_MF 158 := ⟨nc_at_in (p := (4, 31)) rfl rfl, nc_at_in (p := (4, 29)) rfl rfl, Or.inr (nc_at_in (p := (4, 30)) rfl rfl), nc_at_in (p := (1, 7)) rfl rfl, rfl, nc_pd_27, Nat.le_of_ble_eq_true rfl, Nat.le_of_ble_eq_true rfl⟩
set_option maxRecDepth 100000 in
theorem nc_mf_159 : nc_MF 159 := ⟨nc_at_in (p := (4, 76)) rfl rfl, nc_at_in (p := (4, 74)) rfl rfl, Or.inr (nc_at_in (p := (4, 75)) rfl rfl), nc_at_in (p := (1, 7)) rfl rfl, rfl, nc_pd_8, Nat.le_of_ble_eq_true rfl, Nat.le_of_ble_eq_true rfl⟩
set_option maxRecDepth 100000 in
theorem nc_mf_160 : nc_MF 160 := ⟨nc_at_in (p := (5, 145)) rfl rfl, nc_at_in (p := (5, 143)) rfl rfl, Or.inr (nc_at_in (p := (5, 144)) rfl rfl), nc_at_in (p := (1, 7)) rfl rfl, rfl, nc_pd_6, Nat.le_of_ble_eq_true rfl, Nat.le_of_ble_eq_true rfl⟩
set_option maxRecDepth 100000 in
theorem nc_mf_161 : nc_MF 161 := ⟨nc_at_in (p := (4, 23)) rfl rfl, nc_at_in (p := (4, 22)) rfl rfl, Or.inr (nc_at_in (p := (0, 4)) rfl rfl), nc_at_in (p := (1, 8)) rfl rfl, rfl, nc_pd_2, Nat.le_of_ble_eq_true rfl, Nat.le_of_ble_eq_true rfl⟩
set_option maxRecDepth 100000 in
theorem nc_mf_162 : nc_MF 162 := ⟨nc_at_in (p := (4, 54)) rfl rfl, nc_at_in (p := (4, 53)) rfl rfl, Or.inr (nc_at_in (p := (0, 6)) rfl rfl), nc_at_in (p := (1, 8)) rfl rfl, rfl, nc_pd_2, Nat.le_of_ble_eq_true rfl, Nat.le_of_ble_eq_true rfl⟩
set_option maxRecDepth 100000 in
theorem nc_mf_163 : nc_MF 163 := ⟨nc_at_in (p := (4, 67)) rfl rfl, nc_at_in (p := (4, 66)) rfl rfl, Or.inr (nc_at_in (p := (0, 7)) rfl rfl), nc_at_in (p := (1, 8)) rfl rfl, rfl, nc_pd_2, Nat.le_of_ble_eq_true rfl, Nat.le_of_ble_eq_true rfl⟩
set_option maxRecDepth 100000 in
theorem nc_mf_164 : nc_MF 164 := ⟨nc_at_in (p := (4, 72)) rfl rfl, nc_at_in (p := (4, 71)) rfl rfl, Or.inr (nc_at_in (p := (0, 8)) rfl rfl), nc_at_in (p := (1, 8)) rfl rfl, rfl, nc_pd_2, Nat.le_of_ble_eq_true rfl, Nat.le_of_ble_eq_true rfl⟩
set_option maxRecDepth 100000 in
theorem nc_mf_165 : nc_MF 165 := ⟨nc_at_in (p := (4, 84)) rfl rfl, nc_at_in (p := (4, 83)) rfl rfl, Or.inr (nc_at_in (p := (0, 9)) rfl rfl), nc_at_in (p := (1, 8)) rfl rfl, rfl, nc_pd_2, Nat.le_of_ble_eq_true rfl, Nat.le_of_ble_eq_true rfl⟩
set_option maxRecDepth 100000 in
theorem nc_mf_166 : nc_MF 166 := ⟨nc_at_in (p := (4, 15)) rfl rfl, nc_at_in (p := (4, 14)) rfl rfl, Or.inr (nc_at_in (p := (0, 3)) rfl rfl), nc_at_in (p := (1, 8)) rfl rfl, rfl, nc_pd_2, Nat.le_of_ble_eq_true rfl, Nat.le_of_ble_eq_true rfl⟩
set_option maxRecDepth 100000 in
theorem nc_mf_167 : nc_MF 167 := ⟨nc_at_in (p := (3, 148)) rfl rfl, nc_at_in (p := (3, 146)) rfl rfl, Or.inr (nc_at_in (p := (3, 147)) rfl rfl), nc_at_in (p := (1, 8)) rfl rfl, rfl, nc_pd_2, Nat.le_of_ble_eq_true rfl, Nat.le_of_ble_eq_true rfl⟩
set_option maxRecDepth 100000 in
theorem nc_mf_168 : nc_MF 168 := ⟨nc_at_in (p := (5, 218)) rfl rfl, nc_at_in (p := (5, 216)) rfl rfl, Or.inr (nc_at_in (p := (5, 217)) rfl rfl), nc_at_in (p := (1, 16)) rfl rfl, rfl, nc_pd_20, Nat.le_of_ble_eq_true rfl, Nat.le_of_ble_eq_true rfl⟩
set_option maxRecDepth 100000 in
theorem nc_mf_169 : nc_MF 169 := ⟨nc_at_in (p := (4, 169)) rfl rfl, nc_at_in (p := (4, 167)) rfl rfl, Or.inr (nc_at_in (p := (4, 168)) rfl rfl), nc_at_in (p := (1, 11)) rfl rfl, rfl, nc_pd_20, Nat.le_of_ble_eq_true rfl, Nat.le_of_ble_eq_true rfl⟩
set_option maxRecDepth 100000 in
theorem nc_mf_170 : nc_MF 170 := ⟨nc_at_in (p := (5, 22)) rfl rfl, nc_at_in (p := (5, 20)) rfl rfl, Or.inr (nc_at_in (p := (5, 21)) rfl rfl), nc_at_in (p := (1, 11)) rfl rfl, rfl, nc_pd_19, Nat.le_of_ble_eq_true rfl, Nat.le_of_ble_eq_true rfl⟩
set_option maxRecDepth 100000 in
theorem nc_mf_171 : nc_MF 171 := ⟨nc_at_in (p := (4, 99)) rfl rfl, nc_at_in (p := (4, 97)) rfl rfl, Or.inr (nc_at_in (p := (4, 98)) rfl rfl), nc_at_in (p := (1, 9)) rfl rfl, rfl, nc_pd_1, Nat.le_of_ble_eq_true rfl, Nat.le_of_ble_eq_true rfl⟩
set_option maxRecDepth 100000 in
theorem nc_mf_172 : nc_MF 172 := ⟨nc_at_in (p := (5, 93)) rfl rfl, nc_at_in (p := (5, 91)) rfl rfl, Or.inr (nc_at_in (p := (5, 92)) rfl rfl), nc_at_in (p := (1, 15)) rfl rfl, rfl, nc_pd_23, Nat.le_of_ble_eq_true rfl, Nat.le_of_ble_eq_true rfl⟩
set_option maxRecDepth 100000 in
theorem nc_mf_173 : nc_MF 173 := ⟨nc_at_in (p := (6, 78)) rfl rfl, nc_at_in (p := (6, 76)) rfl rfl, Or.inr (nc_at_in (p := (6, 77)) rfl rfl), nc_at_in (p := (1, 12)) rfl rfl, rfl, nc_pd_26, Nat.le_of_ble_eq_true rfl, Nat.le_of_ble_eq_true rfl⟩
set_option maxRecDepth 100000 in
theorem nc_mf_174 : nc_MF 174 := ⟨nc_at_in (p := (6, 44)) rfl rfl, nc_at_in (p := (6, 42)) rfl rfl, Or.inr (nc_at_in (p := (6, 43)) rfl rfl), nc_at_in (p := (1, 12)) rfl rfl, rfl, nc_pd_29, Nat.le_of_ble_eq_true rfl, Nat.le_of_ble_eq_true rfl⟩
set_option maxRecDepth 100000 in
theorem nc_mf_175 : nc_MF 175 := ⟨nc_at_in (p := (6, 91)) rfl rfl, nc_at_in (p := (6, 90)) rfl rfl, Or.inr (nc_at_in (p := (0, 40)) rfl rfl), nc_at_in (p := (1, 12)) rfl rfl, rfl, nc_pd_24, Nat.le_of_ble_eq_true rfl, Nat.le_of_ble_eq_true rfl⟩
set_option maxRecDepth 100000 in
theorem nc_mf_176 : nc_MF 176 := ⟨nc_at_in (p := (6, 87)) rfl rfl, nc_at_in (p := (6, 85)) rfl rfl, Or.inr (nc_at_in (p := (6, 86)) rfl rfl), nc_at_in (p := (1, 12)) rfl rfl, rfl, nc_pd_22, Nat.le_of_ble_eq_true rfl, Nat.le_of_ble_eq_true rfl⟩
set_option maxRecDepth 100000 in
theorem nc_mf_177 : nc_MF 177 := ⟨nc_at_in (p := (3, 132)) rfl rfl, nc_at_in (p := (3, 130)) rfl rfl, Or.inr (nc_at_in (p := (3, 131)) rfl rfl), nc_at_in (p := (1, 1)) rfl rfl, rfl, nc_pd_13, Nat.le_of_ble_eq_true rfl, Nat.le_of_ble_eq_true rfl⟩
set_option maxRecDepth 100000 in
theorem nc_mf_178 : nc_MF 178 := ⟨nc_at_in (p := (3, 144)) rfl rfl, nc_at_in (p := (3, 142)) rfl rfl, Or.inr (nc_at_in (p := (3, 143)) rfl rfl), nc_at_in (p := (1, 1)) rfl rfl, rfl, nc_pd_0, Nat.le_of_ble_eq_true rfl, Nat.le_of_ble_eq_true rfl⟩
set_option maxRecDepth 100000 in
theorem nc_mf_179 : nc_MF 179 := ⟨nc_at_in (p := (6, 118)) rfl rfl, nc_at_in (p := (6, 116)) rfl rfl, Or.inr (nc_at_in (p := (6, 117)) rfl rfl), nc_at_in (p := (1, 1)) rfl rfl, rfl, nc_pd_6, Nat.le_of_ble_eq_true rfl, Nat.le_of_ble_eq_true rfl⟩
set_option maxRecDepth 100000 in
theorem nc_mf_180 : nc_MF 180 := ⟨nc_at_in (p := (4, 115)) rfl rfl, nc_at_in (p := (4, 113)) rfl rfl, Or.inr (nc_at_in (p := (4, 114)) rfl rfl), nc_at_in (p := (1, 1)) rfl rfl, rfl, nc_pd_6, Nat.le_of_ble_eq_true rfl, Nat.le_of_ble_eq_true rfl⟩
set_option maxRecDepth 100000 in
theorem nc_mf_181 : nc_MF 181 := ⟨nc_at_in (p := (6, 192)) rfl rfl, nc_at_in (p := (6, 191)) rfl rfl, Or.inr (nc_at_in (p := (0, 43)) rfl rfl), nc_at_in (p := (1, 1)) rfl rfl, rfl, nc_pd_3, Nat.le_of_ble_eq_true rfl, Nat.le_of_ble_eq_true rfl⟩
set_option maxRecDepth 100000 in
theorem nc_mf_182 : nc_MF 182 := ⟨nc_at_in (p := (6, 188)) rfl rfl, nc_at_in (p := (6, 186)) rfl rfl, Or.inr (nc_at_in (p := (6, 187)) rfl rfl), nc_at_in (p := (1, 1)) rfl rfl, rfl, nc_pd_6, Nat.le_of_ble_eq_true rfl, Nat.le_of_ble_eq_true rfl⟩
set_option maxRecDepth 100000 in
theorem nc_mf_183 : nc_MF 183 := ⟨nc_at_in (p := (4, 131)) rfl rfl, nc_at_in (p := (4, 129)) rfl rfl, Or.inr (nc_at_in (p := (4, 130)) rfl rfl), nc_at_in (p := (1, 1)) rfl rfl, rfl, nc_pd_3, Nat.le_of_ble_eq_true rfl, Nat.le_of_ble_eq_true rfl⟩
set_option maxRecDepth 100000 in
theorem nc_mf_184 : nc_MF 184 := ⟨nc_at_in (p := (4, 147)) rfl rfl, nc_at_in (p := (4, 145)) rfl rfl, Or.inr (nc_at_in (p := (4, 146)) rfl rfl), nc_at_in (p := (1, 1)) rfl rfl, rfl, nc_pd_6, Nat.le_of_ble_eq_true rfl, Nat.le_of_ble_eq_true rfl⟩
set_option maxRecDepth 100000 in
theorem nc_mf_185 : nc_MF 185 := ⟨nc_at_in (p := (4, 143)) rfl rfl, nc_at_in (p := (4, 141)) rfl rfl, Or.inr (nc_at_in (p := (4, 142)) rfl rfl), nc_at_in (p := (1, 1)) rfl rfl, rfl, nc_pd_6, Nat.le_of_ble_eq_true rfl, Nat.le_of_ble_eq_true rfl⟩
set_option maxRecDepth 100000 in
theorem nc_mf_186 : nc_MF 186 := ⟨nc_at_in (p := (4, 187)) rfl rfl, nc_at_in (p := (4, 185)) rfl rfl, Or.inr (nc_at_in (p := (4, 186)) rfl rfl), nc_at_in (p := (1, 1)) rfl rfl, rfl, nc_pd_3, Nat.le_of_ble_eq_true rfl, Nat.le_of_ble_eq_true rfl⟩
set_option maxRecDepth 100000 in
theorem nc_mf_187 : nc_MF 187 := ⟨nc_at_in (p := (4, 208)) rfl rfl, nc_at_in (p := (4, 206)) rfl rfl, Or.inr (nc_at_in (p := (4, 207)) rfl rfl), nc_at_in (p := (1, 1)) rfl rfl, rfl, nc_pd_3, Nat.le_of_ble_eq_true rfl, Nat.le_of_ble_eq_true rfl⟩
set_option maxRecDepth 100000 in
theorem nc_mf_188 : nc_MF 188 := ⟨nc_at_in (p := (5, 18)) rfl rfl, nc_at_in (p := (5, 16)) rfl rfl, Or.inr (nc_at_in (p := (5, 17)) rfl rfl), nc_at_in (p := (1, 1)) rfl rfl, rfl, nc_pd_0, Nat.le_of_ble_eq_true rfl, Nat.le_of_ble_eq_true rfl⟩
set_option maxRecDepth 100000 in
theorem nc_mf_189 : nc_MF 189 := ⟨nc_at_in (p := (5, 31)) rfl rfl, nc_at_in (p := (5, 30)) rfl rfl, Or.inr (nc_at_in (p := (0, 18)) rfl rfl), nc_at_in (p := (1, 1)) rfl rfl, rfl, nc_pd_5, Nat.le_of_ble_eq_true rfl, Nat.le_of_ble_eq_true rfl⟩
set_option maxRecDepth 100000 in
theorem nc_mf_190 : nc_MF 190 := ⟨nc_at_in (p := (5, 27)) rfl rfl, nc_at_in (p := (5, 25)) rfl rfl, Or.inr (nc_at_in (p := (5, 26)) rfl rfl), nc_at_in (p := (1, 1)) rfl rfl, rfl, nc_pd_3, Nat.le_of_ble_eq_true rfl, Nat.le_of_ble_eq_true rfl⟩
set_option maxRecDepth 100000 in
theorem nc_mf_191 : nc_MF 191 := ⟨nc_at_in (p := (5, 65)) rfl rfl, nc_at_in (p := (5, 63)) rfl rfl, Or.inr (nc_at_in (p := (5, 64)) rfl rfl), nc_at_in (p := (1, 1)) rfl rfl, rfl, nc_pd_6, Nat.le_of_ble_eq_true rfl, Nat.le_of_ble_eq_true rfl⟩
set_option maxRecDepth 100000 in
theorem nc_mf_192 : nc_MF 192 := ⟨nc_at_in (p := (5, 81)) rfl rfl, nc_at_in (p := (5, 79)) rfl rfl, Or.inr (nc_at_in (p := (5, 80)) rfl rfl), nc_at_in (p := (1, 1)) rfl rfl, rfl, nc_pd_3, Nat.le_of_ble_eq_true rfl, Nat.le_of_ble_eq_true rfl⟩
set_option maxRecDepth 100000 in
theorem nc_mf_193 : nc_MF 193 := ⟨nc_at_in (p := (5, 89)) rfl rfl, nc_at_in (p := (5, 87)) rfl rfl, Or.inr (nc_at_in (p := (5, 88)) rfl rfl), nc_at_in (p := (1, 1)) rfl rfl, rfl, nc_pd_6, Nat.le_of_ble_eq_true rfl, Nat.le_of_ble_eq_true rfl⟩
set_option maxRecDepth 100000 in
theorem nc_mf_194 : nc_MF 194 := ⟨nc_at_in (p := (5, 126)) rfl rfl, nc_at_in (p := (5, 124)) rfl rfl, Or.inr (nc_at_in (p := (5, 125)) rfl rfl), nc_at_in (p := (1, 1)) rfl rfl, rfl, nc_pd_3, Nat.le_of_ble_eq_true rfl, Nat.le_of_ble_eq_true rfl⟩
set_option maxRecDepth 100000 in
theorem nc_mf_195 : nc_MF 195 := ⟨nc_at_in (p := (5, 137)) rfl rfl, nc_at_in (p := (5, 135)) rfl rfl, Or.inr (nc_at_in (p := (5, 136)) rfl rfl), nc_at_in (p := (1, 1)) rfl rfl, rfl, nc_pd_6, Nat.le_of_ble_eq_true rfl, Nat.le_of_ble_eq_true rfl⟩
set_option maxRecDepth 100000 in
theorem nc_mf_196 : nc_MF 196 := ⟨nc_at_in (p := (5, 159)) rfl rfl, nc_at_in (p := (5, 157)) rfl rfl, Or.inr (nc_at_in (p := (5, 158)) rfl rfl), nc_at_in (p := (1, 1)) rfl rfl, rfl, nc_pd_3, Nat.le_of_ble_eq_true rfl, Nat.le_of_ble_eq_true rfl⟩
set_option maxRecDepth 100000 in
theorem nc_mf_197 : nc_MF 197 := ⟨nc_at_in (p := (5, 188)) rfl rfl, nc_at_in (p := (5, 186)) rfl rfl, Or.inr (nc_at_in (p := (5, 187)) rfl rfl), nc_at_in (p := (1, 1)) rfl rfl, rfl, nc_pd_3, Nat.le_of_ble_eq_true rfl, Nat.le_of_ble_eq_true rfl⟩
set_option maxRecDepth 100000 in
theorem nc_mf_198 : nc_MF 198 := ⟨nc_at_in (p := (5, 198)) rfl rfl, nc_at_in (p := (5, 197)) rfl rfl, Or.inr (nc_at_in (p := (0, 30)) rfl rfl), nc_at_in (p := (1, 1)) rfl rfl, rfl, nc_pd_11, Nat.le_of_ble_eq_true rfl, Nat.le_of_ble_eq_true rfl⟩
set_option maxRecDepth 100000 in
theorem nc_mf_199 : nc_MF 199 := ⟨nc_at_in (p := (5, 193)) rfl rfl, nc_at_in (p := (5, 191)) rfl rfl, Or.inr (nc_at_in (p := (5, 192)) rfl rfl), nc_at_in (p := (1, 1)) rfl rfl, rfl, nc_pd_3, Nat.le_of_ble_eq_true rfl, Nat.le_of_ble_eq_true rfl⟩
set_option maxRecDepth 100000 in
theorem nc_mf_200 : nc_MF 200 := ⟨nc_at_in (p := (5, 206)) rfl rfl, nc_at_in (p := (5, 204)) rfl rfl, Or.inr (nc_at_in (p := (5, 205)) rfl rfl), nc_at_in (p := (1, 1)) rfl rfl, rfl, nc_pd_6, Nat.le_of_ble_eq_true rfl, Nat.le_of_ble_eq_true rfl⟩
set_option maxRecDepth 100000 in
theorem nc_mf_201 : nc_MF 201 := ⟨nc_at_in (p := (5, 210)) rfl rfl, nc_at_in (p := (5, 208)) rfl rfl, Or.inr (nc_at_in (p := (5, 209)) rfl rfl), nc_at_in (p := (1, 1)) rfl rfl, rfl, nc_pd_3, Nat.le_of_ble_eq_true rfl, Nat.le_of_ble_eq_true rfl⟩
set_option maxRecDepth 100000 in
theorem nc_mf_202 : nc_MF 202 := ⟨nc_at_in (p := (5, 214)) rfl rfl, nc_at_in (p := (5, 212)) rfl rfl, Or.inr (nc_at_in (p := (5, 213)) rfl rfl), nc_at_in (p := (1, 1)) rfl rfl, rfl, nc_pd_6, Nat.le_of_ble_eq_true rfl, Nat.le_of_ble_eq_true rfl⟩
set_option maxRecDepth 100000 in
theorem nc_mf_203 : nc_MF 203 := ⟨nc_at_in (p := (5, 235)) rfl rfl, nc_at_in (p := (5, 234)) rfl rfl, Or.inr (nc_at_in (p := (0, 32)) rfl rfl), nc_at_in (p := (1, 1)) rfl rfl, rfl, nc_pd_5, Nat.le_of_ble_eq_true rfl, Nat.le_of_ble_eq_true rfl⟩
set_option maxRecDepth 100000 in
theorem nc_mf_204 : nc_MF 204 := ⟨nc_at_in (p := (5, 231)) rfl rfl, nc_at_in (p := (5, 229)) rfl rfl, Or.inr (nc_at_in (p := (5, 230)) rfl rfl), nc_at_in (p := (1, 1)) rfl rfl, rfl, nc_pd_9, Nat.le_of_ble_eq_true rfl, Nat.le_of_ble_eq_true rfl⟩
set_option maxRecDepth 100000 in
theorem nc_mf_205 : nc_MF 205 := ⟨nc_at_in (p := (5, 239)) rfl rfl, nc_at_in (p := (5, 237)) rfl rfl, Or.inr (nc_at_in (p := (5, 238)) rfl rfl), nc_at_in (p := (1, 1)) rfl rfl, rfl, nc_pd_3, Nat.le_of_ble_eq_true rfl, Nat.le_of_ble_eq_true rfl⟩
set_option maxRecDepth 100000 in
theorem nc_mf_206 : nc_MF 206 := ⟨nc_at_in (p := (6, 40)) rfl rfl, nc_at_in (p := (6, 38)) rfl rfl, Or.inr (nc_at_in (p := (6, 39)) rfl rfl), nc_at_in (p := (1, 1)) rfl rfl, rfl, nc_pd_0, Nat.le_of_ble_eq_true rfl, Nat.le_of_ble_eq_true rfl⟩
set_option maxRecDepth 100000 in
theorem nc_mf_207 : nc_MF 207 := ⟨nc_at_in (p := (6, 83)) rfl rfl, nc_at_in (p := (6, 81)) rfl rfl, Or.inr (nc_at_in (p := (6, 82)) rfl rfl), nc_at_in (p := (1, 1)) rfl rfl, rfl, nc_pd_3, Nat.le_of_ble_eq_true rfl, Nat.le_of_ble_eq_true rfl⟩
set_option maxRecDepth 100000 in
theorem nc_mf_208 : nc_MF 208 := ⟨nc_at_in (p := (6, 102)) rfl rfl, nc_at_in (p := (6, 100)) rfl rfl, Or.inr (nc_at_in (p := (6, 101)) rfl rfl), nc_at_in (p := (1, 1)) rfl rfl, rfl, nc_pd_5, Nat.le_of_ble_eq_true rfl, Nat.le_of_ble_eq_true rfl⟩
set_option maxRecDepth 100000 in
theorem nc_mf_209 : nc_MF 209 := ⟨nc_at_in (p := (6, 106)) rfl rfl, nc_at_in (p := (6, 104)) rfl rfl, Or.inr (nc_at_in (p := (6, 105)) rfl rfl), nc_at_in (p := (1, 1)) rfl rfl, rfl, nc_pd_5, Nat.le_of_ble_eq_true rfl, Nat.le_of_ble_eq_true rfl⟩
set_option maxRecDepth 100000 in
theorem nc_mf_210 : nc_MF 210 := ⟨nc_at_in (p := (6, 201)) rfl rfl, nc_at_in (p := (6, 199)) rfl rfl, Or.inr (nc_at_in (p := (6, 200)) rfl rfl), nc_at_in (p := (1, 18)) rfl rfl, rfl, nc_pd_13, Nat.le_of_ble_eq_true rfl, Nat.le_of_ble_eq_true rfl⟩
set_option maxRecDepth 100000 in
theorem nc_mf_211 : nc_MF 211 := ⟨nc_at_in (p := (7, 160)) rfl rfl, nc_at_in (p := (7, 159)) rfl rfl, Or.inr (nc_at_in (p := (0, 46)) rfl rfl), nc_at_in (p := (1, 18)) rfl rfl, rfl, nc_pd_1, Nat.le_of_ble_eq_true rfl, Nat.le_of_ble_eq_true rfl⟩
set_option maxRecDepth 100000 in
theorem nc_mf_212 : nc_MF 212 := ⟨nc_at_in (p := (7, 229)) rfl rfl, nc_at_in (p := (7, 228)) rfl rfl, Or.inr (nc_at_in (p := (0, 61)) rfl rfl), nc_at_in (p := (1, 18)) rfl rfl, rfl, nc_pd_5, Nat.le_of_ble_eq_true rfl, Nat.le_of_ble_eq_true rfl⟩
set_option maxRecDepth 100000 in
theorem nc_mf_213 : nc_MF 213 := ⟨nc_at_in (p := (7, 210)) rfl rfl, nc_at_in (p := (7, 209)) rfl rfl, Or.inr (nc_at_in (p := (0, 57)) rfl rfl), nc_at_in (p := (1, 18)) rfl rfl, rfl, nc_pd_8, Nat.le_of_ble_eq_true rfl, Nat.le_of_ble_eq_true rfl⟩
set_option maxRecDepth 100000 in
theorem nc_mf_214 : nc_MF 214 := ⟨nc_at_in (p := (7, 206)) rfl rfl, nc_at_in (p := (7, 205)) rfl rfl, Or.inr (nc_at_in (p := (0, 56)) rfl rfl), nc_at_in (p := (1, 18)) rfl rfl, rfl, nc_pd_11, Nat.le_of_ble_eq_true rfl, Nat.le_of_ble_eq_true rfl⟩
set_option maxRecDepth 100000 in
theorem nc_mf_215 : nc_MF 215 := ⟨nc_at_in (p := (7, 186)) rfl rfl, nc_at_in (p := (7, 185)) rfl rfl, Or.inr (nc_at_in (p := (0, 51)) rfl rfl), nc_at_in (p := (1, 18)) rfl rfl, rfl, nc_pd_5, Nat.le_of_ble_eq_true rfl, Nat.le_of_ble_eq_true rfl⟩
set_option maxRecDepth 100000 in
theorem nc_mf_216 : nc_MF 216 := ⟨nc_at_in (p := (7, 202)) rfl rfl, nc_at_in (p := (7, 201)) rfl rfl, Or.inr (nc_at_in (p := (0, 55)) rfl rfl), nc_at_in (p := (1, 18)) rfl rfl, rfl, nc_pd_8, Nat.le_of_ble_eq_true rfl, Nat.le_of_ble_eq_true rfl⟩
set_option maxRecDepth 100000 in
theorem nc_mf_217 : nc_MF 217 := ⟨nc_at_in (p := (7, 198)) rfl rfl, nc_at_in (p := (7, 197)) rfl rfl, Or.inr (nc_at_in (p := (0, 54)) rfl rfl), nc_at_in (p := (1, 18)) rfl rfl, rfl, nc_pd_8, Nat.le_of_ble_eq_true rfl, Nat.le_of_ble_eq_true rfl⟩
set_option maxRecDepth 100000 in
theorem nc_mf_218 : nc_MF 218 := ⟨nc_at_in (p := (7, 221)) rfl rfl, nc_at_in (p := (7, 220)) rfl rfl, Or.inr (nc_at_in (p := (0, 59)) rfl rfl), nc_at_in (p := (1, 18)) rfl rfl, rfl, nc_pd_0, Nat.le_of_ble_eq_true rfl, Nat.le_of_ble_eq_true rfl⟩
set_option maxRecDepth 100000 in
theorem nc_mf_219 : nc_MF 219 := ⟨nc_at_in (p := (7, 217)) rfl rfl, nc_at_in (p := (7, 216)) rfl rfl, Or.inr (nc_at_in (p := (0, 58)) rfl rfl), nc_at_in (p := (1, 18)) rfl rfl, rfl, nc_pd_2, Nat.le_of_ble_eq_true rfl, Nat.le_of_ble_eq_true rfl⟩
set_option maxRecDepth 100000 in
theorem nc_mf_220 : nc_MF 220 := ⟨nc_at_in (p := (7, 225)) rfl rfl, nc_at_in (p := (7, 224)) rfl rfl, Or.inr (nc_at_in (p := (0, 60)) rfl rfl), nc_at_in (p := (1, 18)) rfl rfl, rfl, nc_pd_2, Nat.le_of_ble_eq_true rfl, Nat.le_of_ble_eq_true rfl⟩
set_option maxRecDepth 100000 in
theorem nc_mf_221 : nc_MF 221 := ⟨nc_at_in (p := (7, 174)) rfl rfl, nc_at_in (p := (7, 173)) rfl rfl, Or.inr (nc_at_in (p := (0, 48)) rfl rfl), nc_at_in (p := (1, 18)) rfl rfl, rfl, nc_pd_2, Nat.le_of_ble_eq_true rfl, Nat.le_of_ble_eq_true rfl⟩
set_option maxRecDepth 100000 in
theorem nc_mf_222 : nc_MF 222 := ⟨nc_at_in (p := (7, 152)) rfl rfl, nc_at_in (p := (7, 150)) rfl rfl, Or.inr (nc_at_in (p := (7, 151)) rfl rfl), nc_at_in (p := (1, 18)) rfl rfl, rfl, nc_pd_0, Nat.le_of_ble_eq_true rfl, Nat.le_of_ble_eq_true rfl⟩
set_option maxRecDepth 100000 in
theorem nc_mf_223 : nc_MF 223 := ⟨nc_at_in (p := (8, 67)) rfl rfl, nc_at_in (p := (8, 66)) rfl rfl, Or.inr (nc_at_in (p := (0, 75)) rfl rfl), nc_at_in (p := (1, 18)) rfl rfl, rfl, nc_pd_5, Nat.le_of_ble_eq_true rfl, Nat.le_of_ble_eq_true rfl⟩
set_option maxRecDepth 100000 in
theorem nc_mf_224 : nc_MF 224 := ⟨nc_at_in (p := (8, 5)) rfl rfl, nc_at_in (p := (8, 4)) rfl rfl, Or.inr (nc_at_in (p := (0, 63)) rfl rfl), nc_at_in (p := (1, 18)) rfl rfl, rfl, nc_pd_5, Nat.le_of_ble_eq_true rfl, Nat.le_of_ble_eq_true rfl⟩
set_option maxRecDepth 100000 in
theorem nc_mf_225 : nc_MF 225 := ⟨nc_at_in (p := (8, 59)) rfl rfl, nc_at_in (p := (8, 58)) rfl rfl, Or.inr (nc_at_in (p := (0, 74)) rfl rfl), nc_at_in (p := (1, 18)) rfl rfl, rfl, nc_pd_5, Nat.le_of_ble_eq_true rfl, Nat.le_of_ble_eq_true rfl⟩
set_option maxRecDepth 100000 in
theorem nc_mf_226 : nc_MF 226 := ⟨nc_at_in (p := (8, 13)) rfl rfl, nc_at_in (p := (8, 12)) rfl rfl, Or.inr (nc_at_in (p := (0, 65)) rfl rfl), nc_at_in (p := (1, 18)) rfl rfl, rfl, nc_pd_5, Nat.le_of_ble_eq_true rfl, Nat.le_of_ble_eq_true rfl⟩
set_option maxRecDepth 100000 in
theorem nc_mf_227 : nc_MF 227 := ⟨nc_at_in (p := (8, 44)) rfl rfl, nc_at_in (p := (8, 43)) rfl rfl, Or.inr (nc_at_in (p := (0, 72)) rfl rfl), nc_at_in (p := (1, 18)) rfl rfl, rfl, nc_pd_5, Nat.le_of_ble_eq_true rfl, Nat.le_of_ble_eq_true rfl⟩
set_option maxRecDepth 100000 in
theorem nc_mf_228 : nc_MF 228 := ⟨nc_at_in (p := (8, 24)) rfl rfl, nc_at_in (p := (8, 23)) rfl rfl, Or.inr (nc_at_in (p := (0, 67)) rfl rfl), nc_at_in (p := (1, 18)) rfl rfl, rfl, nc_pd_3, Nat.le_of_ble_eq_true rfl, Nat.le_of_ble_eq_true rfl⟩
set_option maxRecDepth 100000 in
theorem nc_mf_229 : nc_MF 229 := ⟨nc_at_in (p := (8, 48)) rfl rfl, nc_at_in (p := (8, 47)) rfl rfl, Or.inr (nc_at_in (p := (0, 73)) rfl rfl), nc_at_in (p := (1, 18)) rfl rfl, rfl, nc_pd_8, Nat.le_of_ble_eq_true rfl, Nat.le_of_ble_eq_true rfl⟩
set_option maxRecDepth 100000 in
theorem nc_mf_230 : nc_MF 230 := ⟨nc_at_in (p := (8, 40)) rfl rfl, nc_at_in (p := (8, 39)) rfl rfl, Or.inr (nc_at_in (p := (0, 71)) rfl rfl), nc_at_in (p := (1, 18)) rfl rfl, rfl, nc_pd_9, Nat.le_of_ble_eq_true rfl, Nat.le_of_ble_eq_true rfl⟩
set_option maxRecDepth 100000 in
theorem nc_mf_231 : nc_MF 231 := ⟨nc_at_in (p := (8, 36)) rfl rfl, nc_at_in (p := (8, 35)) rfl rfl, Or.inr (nc_at_in (p := (0, 70)) rfl rfl), nc_at_in (p := (1, 18)) rfl rfl, rfl, nc_pd_6, Nat.le_of_ble_eq_true rfl, Nat.le_of_ble_eq_true rfl⟩
set_option maxRecDepth 100000 in
theorem nc_mf_232 : nc_MF 232 := ⟨nc_at_in (p := (8, 32)) rfl rfl, nc_at_in (p := (8, 31)) rfl rfl, Or.inr (nc_at_in (p := (0, 69)) rfl rfl), nc_at_in (p := (1, 18)) rfl rfl, rfl, nc_pd_3, Nat.le_of_ble_eq_true rfl, Nat.le_of_ble_eq_true rfl⟩
set_option maxRecDepth 100000 in
theorem nc_mf_233 : nc_MF 233 := ⟨nc_at_in (p := (8, 1)) rfl rfl, nc_at_in (p := (7, 239)) rfl rfl, Or.inr (nc_at_in (p := (8, 0)) rfl rfl), nc_at_in (p := (1, 18)) rfl rfl, rfl, nc_pd_6, Nat.le_of_ble_eq_true rfl, Nat.le_of_ble_eq_true rfl⟩
set_option maxRecDepth 100000 in
theorem nc_mf_234 : nc_MF 234 := ⟨nc_at_in (p := (8, 55)) rfl rfl, nc_at_in (p := (8, 53)) rfl rfl, Or.inr (nc_at_in (p := (8, 54)) rfl rfl), nc_at_in (p := (1, 18)) rfl rfl, rfl, nc_pd_6, Nat.le_of_ble_eq_true rfl, Nat.le_of_ble_eq_true rfl⟩
set_option maxRecDepth 100000 in
theorem nc_mf_235 : nc_MF 235 := ⟨nc_at_in (p := (8, 75)) rfl rfl, nc_at_in (p := (8, 74)) rfl rfl, Or.inr (nc_at_in (p := (0, 77)) rfl rfl), nc_at_in (p := (1, 18)) rfl rfl, rfl, nc_pd_3, Nat.le_of_ble_eq_true rfl, Nat.le_of_ble_eq_true rfl⟩
set_option maxRecDepth 100000 in
theorem nc_mf_236 : nc_MF 236 := ⟨nc_at_in (p := (8, 63)) rfl rfl, nc_at_in (p := (8, 61)) rfl rfl, Or.inr (nc_at_in (p := (8, 62)) rfl rfl), nc_at_in (p := (1, 18)) rfl rfl, rfl, nc_pd_6, Nat.le_of_ble_eq_true rfl, Nat.le_of_ble_eq_true rfl⟩
set_option maxRecDepth 100000 in
theorem nc_mf_237 : nc_MF 237 := ⟨nc_at_in (p := (8, 79)) rfl rfl, nc_at_in (p := (8, 77)) rfl rfl, Or.inr (nc_at_in (p := (8, 78)) rfl rfl), nc_at_in (p := (1, 18)) rfl rfl, rfl, nc_pd_3, Nat.le_of_ble_eq_true rfl, Nat.le_of_ble_eq_true rfl⟩
set_option maxRecDepth 100000 in
theorem nc_mf_238 : nc_MF 238 := ⟨nc_at_in (p := (8, 95)) rfl rfl, nc_at_in (p := (8, 94)) rfl rfl, Or.inr (nc_at_in (p := (0, 80)) rfl rfl), nc_at_in (p := (1, 18)) rfl rfl, rfl, nc_pd_6, Nat.le_of_ble_eq_true rfl, Nat.le_of_ble_eq_true rfl⟩
set_option maxRecDepth 100000 in
theorem nc_mf_239 : nc_MF 239 := ⟨nc_at_in (p := (8, 106)) rfl rfl, nc_at_in (p := (8, 105)) rfl rfl, Or.inr (nc_at_in (p := (0, 82)) rfl rfl), nc_at_in (p := (1, 18)) rfl rfl, rfl, nc_pd_7, Nat.le_of_ble_eq_true rfl, Nat.le_of_ble_eq_true rfl⟩
set_option maxRecDepth 100000 in
theorem nc_mf_240 : nc_MF 240 := ⟨nc_at_in (p := (8, 114)) rfl rfl, nc_at_in (p := (8, 113)) rfl rfl, Or.inr (nc_at_in (p := (0, 83)) rfl rfl), nc_at_in (p := (1, 18)) rfl rfl, rfl, nc_pd_3, Nat.le_of_ble_eq_true rfl, Nat.le_of_ble_eq_true rfl⟩
set_option maxRecDepth 100000 in
theorem nc_mf_241 : nc_MF 241 := ⟨nc_at_in (p := (8, 122)) rfl rfl, nc_at_in (p := (8, 121)) rfl rfl, Or.inr (nc_at_in (p := (0, 85)) rfl rfl), nc_at_in (p := (1, 18)) rfl rfl, rfl, nc_pd_3, Nat.le_of_ble_eq_true rfl, Nat.le_of_ble_eq_true rfl⟩
set_option maxRecDepth 100000 in
theorem nc_mf_242 : nc_MF 242 := ⟨nc_at_in (p := (8, 118)) rfl rfl, nc_at_in (p := (8, 117)) rfl rfl, Or.inr (nc_at_in (p := (0, 84)) rfl rfl), nc_at_in (p := (1, 18)) rfl rfl, rfl, nc_pd_4, Nat.le_of_ble_eq_true rfl, Nat.le_of_ble_eq_true rfl⟩
set_option maxRecDepth 100000 in
theorem nc_mf_243 : nc_MF 243 := ⟨nc_at_in (p := (8, 138)) rfl rfl, nc_at_in (p := (8, 137)) rfl rfl, Or.inr (nc_at_in (p := (0, 88)) rfl rfl), nc_at_in (p := (1, 18)) rfl rfl, rfl, nc_pd_7, Nat.le_of_ble_eq_true rfl, Nat.le_of_ble_eq_true rfl⟩
set_option maxRecDepth 100000 in
theorem nc_mf_244 : nc_MF 244 := ⟨nc_at_in (p := (8, 134)) rfl rfl, nc_at_in (p := (8, 133)) rfl rfl, Or.inr (nc_at_in (p := (0, 87)) rfl rfl), nc_at_in (p := (1, 18)) rfl rfl, rfl, nc_pd_1, Nat.le_of_ble_eq_true rfl, Nat.le_of_ble_eq_true rfl⟩
set_option maxRecDepth 100000 in
theorem nc_mf_245 : nc_MF 245 := ⟨nc_at_in (p := (8, 130)) rfl rfl, nc_at_in (p := (8, 129)) rfl rfl, Or.inr (nc_at_in (p := (0, 86)) rfl rfl), nc_at_in (p := (1, 18)) rfl rfl, rfl, nc_pd_3, Nat.le_of_ble_eq_true rfl, Nat.le_of_ble_eq_true rfl⟩
set_option maxRecDepth 100000 in
theorem nc_mf_246 : nc_MF 246 := ⟨nc_at_in (p := (8, 91)) rfl rfl, nc_at_in (p := (8, 89)) rfl rfl, Or.inr (nc_at_in (p := (8, 90)) rfl rfl), nc_at_in (p := (1, 18)) rfl rfl, rfl, nc_pd_6, Nat.le_of_ble_eq_true rfl, Nat.le_of_ble_eq_true rfl⟩
set_option maxRecDepth 100000 in
theorem nc_mf_247 : nc_MF 247 := ⟨nc_at_in (p := (8, 110)) rfl rfl, nc_at_in (p := (8, 108)) rfl rfl, Or.inr (nc_at_in (p := (8, 109)) rfl rfl), nc_at_in (p := (1, 18)) rfl rfl, rfl, nc_pd_3, Nat.le_of_ble_eq_true rfl, Nat.le_of_ble_eq_true rfl⟩
set_option maxRecDepth 100000 in
theorem nc_mf_248 : nc_MF 248 := ⟨nc_at_in (p := (8, 126)) rfl rfl, nc_at_in (p := (8, 124)) rfl rfl, Or.inr (nc_at_in (p := (8, 125)) rfl rfl), nc_at_in (p := (1, 18)) rfl rfl, rfl, nc_pd_3, Nat.le_of_ble_eq_true rfl, Nat.le_of_ble_eq_true rfl⟩
set_option maxRecDepth 100000 in
theorem nc_mf_249 : nc_MF 249 := ⟨nc_at_in (p := (8, 146)) rfl rfl, nc_at_in (p := (8, 144)) rfl rfl, Or.inr (nc_at_in (p := (8, 145)) rfl rfl), nc_at_in (p := (1, 18)) rfl rfl, rfl, nc_pd_6, Nat.le_of_ble_eq_true rfl, Nat.le_of_ble_eq_true rfl⟩
set_option maxRecDepth 100000 in
theorem nc_mf_250 : nc_MF 250 := ⟨nc_at_in (p := (8, 162)) rfl rfl, nc_at_in (p := (8, 161)) rfl rfl, Or.inr (nc_at_in (p := (0, 91)) rfl rfl), nc_at_in (p := (1, 18)) rfl rfl, rfl, nc_pd_8, Nat.le_of_ble_eq_true rfl, Nat.le_of_ble_eq_true rfl⟩
set_option maxRecDepth 100000 in
theorem nc_mf_251 : nc_MF 251 := ⟨nc_at_in (p := (8, 158)) rfl rfl, nc_at_in (p := (8, 157)) rfl rfl, Or.inr (nc_at_in (p := (0, 90)) rfl rfl), nc_at_in (p := (1, 18)) rfl rfl, rfl, nc_pd_6, Nat.le_of_ble_eq_true rfl, Nat.le_of_ble_eq_true rfl⟩
set_option maxRecDepth 100000 in
theorem nc_mf_252 : nc_MF 252 := ⟨nc_at_in (p := (8, 150)) rfl rfl, nc_at_in (p := (8, 148)) rfl rfl, Or.inr (nc_at_in (p := (8, 149)) rfl rfl), nc_at_in (p := (1, 18)) rfl rfl, rfl, nc_pd_3, Nat.le_of_ble_eq_true rfl, Nat.le_of_ble_eq_true rfl⟩
set_option maxRecDepth 100000 in
theorem nc_mf_253 : nc_MF 253 := ⟨nc_at_in (p := (8, 170)) rfl rfl, nc_at_in (p := (8, 168)) rfl rfl, Or.inr (nc_at_in (p := (8, 169)) rfl rfl), nc_at_in (p := (1, 18)) rfl rfl, rfl, nc_pd_6, Nat.le_of_ble_eq_true rfl, Nat.le_of_ble_eq_true rfl⟩
set_option maxRecDepth 100000 in
theorem nc_mf_254 : nc_MF 254 := ⟨nc_at_in (p := (8, 178)) rfl rfl, nc_at_in (p := (8, 176)) rfl rfl, Or.inr (nc_at_in (p := (8, 177)) rfl rfl), nc_at_in (p := (1, 18)) rfl rfl, rfl, nc_pd_3, Nat.le_of_ble_eq_true rfl, Nat.le_of_ble_eq_true rfl⟩
set_option maxRecDepth 100000 in
theorem nc_mf_255 : nc_MF 255 := ⟨nc_at_in (p := (8, 190)) rfl rfl, nc_at_in (p := (8, 189)) rfl rfl, Or.inr (nc_at_in (p := (0, 94)) rfl rfl), nc_at_in (p := (1, 18)) rfl rfl, rfl, nc_pd_9, Nat.le_of_ble_eq_true rfl, Nat.le_of_ble_eq_true rfl⟩
set_option maxRecDepth 100000 in
theorem nc_mf_256 : nc_MF 256 := ⟨nc_at_in (p := (8, 182)) rfl rfl, nc_at_in (p := (8, 180)) rfl rfl, Or.inr (nc_at_in (p := (8, 181)) rfl rfl), nc_at_in (p := (1, 18)) rfl rfl, rfl, nc_pd_6, Nat.le_of_ble_eq_true rfl, Nat.le_of_ble_eq_true rfl⟩
set_option maxRecDepth 100000 in
theorem nc_mf_257 : nc_MF 257 := ⟨nc_at_in (p := (8, 202)) rfl rfl, nc_at_in (p := (8, 200)) rfl rfl, Or.inr (nc_at_in (p := (8, 201)) rfl rfl), nc_at_in (p := (1, 18)) rfl rfl, rfl, nc_pd_3, Nat.le_of_ble_eq_true rfl, Nat.le_of_ble_eq_true rfl⟩
set_option maxRecDepth 100000 in
theorem nc_mf_258 : nc_MF 258 := ⟨nc_at_in (p := (8, 206)) rfl rfl, nc_at_in (p := (8, 204)) rfl rfl, Or.inr (nc_at_in (p := (8, 205)) rfl rfl), nc_at_in (p := (1, 18)) rfl rfl, rfl, nc_pd_3, Nat.le_of_ble_eq_true rfl, Nat.le_of_ble_eq_true rfl⟩
set_option maxRecDepth 100000 in
theorem nc_mf_259 : nc_MF 259 := ⟨nc_at_in (p := (8, 214)) rfl rfl, nc_at_in (p := (8, 213)) rfl rfl, Or.inr (nc_at_in (p := (0, 97)) rfl rfl), nc_at_in (p := (1, 18)) rfl rfl, rfl, nc_pd_11, Nat.le_of_ble_eq_true rfl, Nat.le_of_ble_eq_true rfl⟩
set_option maxRecDepth 100000 in
theorem nc_mf_260 : nc_MF 260 := ⟨nc_at_in (p := (8, 210)) rfl rfl, nc_at_in (p := (8, 208)) rfl rfl, Or.inr (nc_at_in (p := (8, 209)) rfl rfl), nc_at_in (p := (1, 18)) rfl rfl, rfl, nc_pd_6, Nat.le_of_ble_eq_true rfl, Nat.le_of_ble_eq_true rfl⟩
set_option maxRecDepth 100000 in
theorem nc_mf_261 : nc_MF 261 := ⟨nc_at_in (p := (8, 222)) rfl rfl, nc_at_in (p := (8, 220)) rfl rfl, Or.inr (nc_at_in (p := (8, 221)) rfl rfl), nc_at_in (p := (1, 18)) rfl rfl, rfl, nc_pd_3, Nat.le_of_ble_eq_true rfl, Nat.le_of_ble_eq_true rfl⟩
set_option maxRecDepth 100000 in
theorem nc_mf_262 : nc_MF 262 := ⟨nc_at_in (p := (9, 1)) rfl rfl, nc_at_in (p := (8, 239)) rfl rfl, Or.inr (nc_at_in (p := (9, 0)) rfl rfl), nc_at_in (p := (1, 18)) rfl rfl, rfl, nc_pd_3, Nat.le_of_ble_eq_true rfl, Nat.le_of_ble_eq_true rfl⟩
set_option maxRecDepth 100000 in
theorem nc_mf_263 : nc_MF 263 := ⟨nc_at_in (p := (9, 13)) rfl rfl, nc_at_in (p := (9, 12)) rfl rfl, Or.inr (nc_at_in (p := (0, 99)) rfl rfl), nc_at_in (p := (1, 18)) rfl rfl, rfl, nc_pd_5, Nat.le_of_ble_eq_true rfl, Nat.le_of_ble_eq_true rfl⟩
set_option maxRecDepth 100000 in
theorem nc_mf_264 : nc_MF 264 := ⟨nc_at_in (p := (9, 5)) rfl rfl, nc_at_in (p := (9, 3)) rfl rfl, Or.inr (nc_at_in (p := (9, 4)) rfl rfl), nc_at_in (p := (1, 18)) rfl rfl, rfl, nc_pd_3, Nat.le_of_ble_eq_true rfl, Nat.le_of_ble_eq_true rfl⟩
set_option maxRecDepth 100000 in
theorem nc_mf_265 : nc_MF 265 := ⟨nc_at_in (p := (9, 9)) rfl rfl, nc_at_in (p := (9, 7)) rfl rfl, Or.inr (nc_at_in (p := (9, 8)) rfl rfl), nc_at_in (p := (1, 18)) rfl rfl, rfl, nc_pd_6, Nat.le_of_ble_eq_true rfl, Nat.le_of_ble_eq_true rfl⟩
set_option maxRecDepth 100000 in
theorem nc_mf_266 : nc_MF 266 := ⟨nc_at_in (p := (9, 17)) rfl rfl, nc_at_in (p := (9, 15)) rfl rfl, Or.inr (nc_at_in (p := (9, 16)) rfl rfl), nc_at_in (p := (1, 18)) rfl rfl, rfl, nc_pd_3, Nat.le_of_ble_eq_true rfl, Nat.le_of_ble_eq_true rfl⟩
set_option maxRecDepth 100000 in
theorem nc_mf_267 : nc_MF 267 := ⟨nc_at_in (p := (9, 25)) rfl rfl, nc_at_in (p := (9, 24)) rfl rfl, Or.inr (nc_at_in (p := (0, 100)) rfl rfl), nc_at_in (p := (1, 18)) rfl rfl, rfl, nc_pd_6, Nat.le_of_ble_eq_true rfl, Nat.le_of_ble_eq_true rfl⟩
set_option maxRecDepth 100000 in
theorem nc_mf_268 : nc_MF 268 := ⟨nc_at_in (p := (9, 21)) rfl rfl, nc_at_in (p := (9, 19)) rfl rfl, Or.inr (nc_at_in (p := (9, 20)) rfl rfl), nc_at_in (p := (1, 18)) rfl rfl, rfl, nc_pd_6, Nat.le_of_ble_eq_true rfl, Nat.le_of_ble_eq_true rfl⟩
set_option maxRecDepth 100000 in
theorem nc_mf_269 : nc_MF 269 := ⟨nc_at_in (p := (9, 34)) rfl rfl, nc_at_in (p := (9, 32)) rfl rfl, Or.inr (nc_at_in (p := (9, 33)) rfl rfl), nc_at_in (p := (1, 18)) rfl rfl, rfl, nc_pd_9, Nat.le_of_ble_eq_true rfl, Nat.le_of_ble_eq_true rfl⟩
set_option maxRecDepth 100000 in
theorem nc_mf_270 : nc_MF 270 := ⟨nc_at_in (p := (9, 42)) rfl rfl, nc_at_in (p := (9, 41)) rfl rfl, Or.inr (nc_at_in (p := (0, 102)) rfl rfl), nc_at_in (p := (1, 18)) rfl rfl, rfl, nc_pd_2, Nat.le_of_ble_eq_true rfl, Nat.le_of_ble_eq_true rfl⟩
set_option maxRecDepth 100000 in
theorem nc_mf_271 : nc_MF 271 := ⟨nc_at_in (p := (9, 46)) rfl rfl, nc_at_in (p := (9, 45)) rfl rfl, Or.inr (nc_at_in (p := (0, 103)) rfl rfl), nc_at_in (p := (1, 18)) rfl rfl, rfl, nc_pd_9, Nat.le_of_ble_eq_true rfl, Nat.le_of_ble_eq_true rfl⟩
set_option maxRecDepth 100000 in
theorem nc_mf_272 : nc_MF 272 := ⟨nc_at_in (p := (9, 38)) rfl rfl, nc_at_in (p := (9, 36)) rfl rfl, Or.inr (nc_at_in (p := (9, 37)) rfl rfl), nc_at_in (p := (1, 18)) rfl rfl, rfl, nc_pd_3, Nat.le_of_ble_eq_true rfl, Nat.le_of_ble_eq_true rfl⟩
set_option maxRecDepth 100000 in
theorem nc_mf_273 : nc_MF 273 := ⟨nc_at_in (p := (9, 50)) rfl rfl, nc_at_in (p := (9, 48)) rfl rfl, Or.inr (nc_at_in (p := (9, 49)) rfl rfl), nc_at_in (p := (1, 18)) rfl rfl, rfl, nc_pd_3, Nat.le_of_ble_eq_true rfl, Nat.le_of_ble_eq_true rfl⟩
set_option maxRecDepth 100000 in
theorem nc_mf_274 : nc_MF 274 := ⟨nc_at_in (p := (9, 66)) rfl rfl, nc_at_in (p := (9, 65)) rfl rfl, Or.inr (nc_at_in (p := (0, 106)) rfl rfl), nc_at_in (p := (1, 18)) rfl rfl, rfl, nc_pd_4, Nat.le_of_ble_eq_true rfl, Nat.le_of_ble_eq_true rfl⟩
set_option maxRecDepth 100000 in
theorem nc_mf_275 : nc_MF 275 := ⟨nc_at_in (p := (9, 58)) rfl rfl, nc_at_in (p := (9, 57)) rfl rfl, Or.inr (nc_at_in (p := (0, 104)) rfl rfl), nc_at_in (p := (1, 18)) rfl rfl, rfl, nc_pd_1, Nat.le_of_ble_eq_true rfl, Nat.le_of_ble_eq_true rfl⟩
set_option maxRecDepth 100000 in
theorem nc_mf_276 : nc_MF 276 := ⟨nc_at_in (p := (9, 78)) rfl rfl, nc_at_in (p := (9, 77)) rfl rfl, Or.inr (nc_at_in (p := (0, 109)) rfl rfl), nc_at_in (p := (1, 18)) rfl rfl, rfl, nc_pd_0, Nat.le_of_ble_eq_true rfl, Nat.le_of_ble_eq_true rfl⟩
set_option maxRecDepth 100000 in
theorem nc_mf_277 : nc_MF 277 := ⟨nc_at_in (p := (9, 74)) rfl rfl, nc_at_in (p := (9, 73)) rfl rfl, Or.inr (nc_at_in (p := (0, 108)) rfl rfl), nc_at_in (p := (1, 18)) rfl rfl, rfl, nc_pd_2, Nat.le_of_ble_eq_true rfl, Nat.le_of_ble_eq_true rfl⟩
set_option maxRecDepth 100000 in
theorem nc_mf_278 : nc_MF 278 := ⟨nc_at_in (p := (9, 70)) rfl rfl, nc_at_in (p := (9, 69)) rfl rfl, Or.inr (nc_at_in (p := (0, 107)) rfl rfl), nc_at_in (p := (1, 18)) rfl rfl, rfl, nc_pd_2, Nat.le_of_ble_eq_true rfl, Nat.le_of_ble_eq_true rfl⟩
set_option maxRecDepth 100000 in
theorem nc_mf_279 : nc_MF 279 := ⟨nc_at_in (p := (9, 54)) rfl rfl, nc_at_in (p := (9, 52)) rfl rfl, Or.inr (nc_at_in (p := (9, 53)) rfl rfl), nc_at_in (p := (1, 18)) rfl rfl, rfl, nc_pd_0, Nat.le_of_ble_eq_true rfl, Nat.le_of_ble_eq_true rfl⟩
set_option maxRecDepth 100000 in
theorem nc_mf_280 : nc_MF 280 := ⟨nc_at_in (p := (9, 90)) rfl rfl, nc_at_in (p := (9, 89)) rfl rfl, Or.inr (nc_at_in (p := (0, 111)) rfl rfl), nc_at_in (p := (1, 18)) rfl rfl, rfl, nc_pd_12, Nat.le_of_ble_eq_true rfl, Nat.le_of_ble_eq_true rfl⟩
set_option maxRecDepth 100000 in
theorem nc_mf_281 : nc_MF 281 := ⟨nc_at_in (p := (9, 86)) rfl rfl, nc_at_in (p := (9, 85)) rfl rfl, Or.inr (nc_at_in (p := (0, 110)) rfl rfl), nc_at_in (p := (1, 18)) rfl rfl, rfl, nc_pd_5, Nat.le_of_ble_eq_true rfl, Nat.le_of_ble_eq_true rfl⟩
set_option maxRecDepth 100000 in
theorem nc_mf_282 : nc_MF 282 := ⟨nc_at_in (p := (9, 82)) rfl rfl, nc_at_in (p := (9, 80)) rfl rfl, Or.inr (nc_at_in (p := (9, 81)) rfl rfl), nc_at_in (p := (1, 18)) rfl rfl, rfl, nc_pd_3, Nat.le_of_ble_eq_true rfl, Nat.le_of_ble_eq_true rfl⟩
set_option maxRecDepth 100000 in
theorem nc_mf_283 : nc_MF 283 := ⟨nc_at_in (p := (9, 94)) rfl rfl, nc_at_in (p := (9, 92)) rfl rfl, Or.inr (nc_at_in (p := (9, 93)) rfl rfl), nc_at_in (p := (1, 18)) rfl rfl, rfl, nc_pd_5, Nat.le_of_ble_eq_true rfl, Nat.le_of_ble_eq_true rfl⟩
set_option maxRecDepth 100000 in
theorem nc_mf_284 : nc_MF 284 := ⟨nc_at_in (p := (9, 98)) rfl rfl, nc_at_in (p := (9, 96)) rfl rfl, Or.inr (nc_at_in (p := (9, 97)) rfl rfl), nc_at_in (p := (1, 18)) rfl rfl, rfl, nc_pd_5, Nat.le_of_ble_eq_true rfl, Nat.le_of_ble_eq_true rfl⟩
set_option maxRecDepth 100000 in
theorem nc_mf_285 : nc_MF 285 := ⟨nc_at_in (p := (9, 102)) rfl rfl, nc_at_in (p := (9, 100)) rfl rfl, Or.inr (nc_at_in (p := (9, 101)) rfl rfl), nc_at_in (p := (1, 18)) rfl rfl, rfl, nc_pd_3, Nat.le_of_ble_eq_true rfl, Nat.le_of_ble_eq_true rfl⟩
theorem nc_mg_0 : ∀ M, M < 32 → 0 ≤ M → nc_MF M := by
  intro M h1 h2
  by_cases e0 : M = 0
  · subst e0
    exact nc_mf_0
  by_cases e1 : M = 1
  · subst e1
    exact nc_mf_1
  by_cases e2 : M = 2
  · subst e2
    exact nc_mf_2
  by_cases e3 : M = 3
  · subst e3
    exact nc_mf_3
  by_cases e4 : M = 4
  · subst e4
    exact nc_mf_4
  by_cases e5 : M = 5
  · subst e5
    exact nc_mf_5
  by_cases e6 : M = 6
  · subst e6
    exact nc_mf_6
  by_cases e7 : M = 7
  · subst e7
    exact nc_mf_7
  by_cases e8 : M = 8
  · subst e8
    exact nc_mf_8
  by_cases e9 : M = 9
  · subst e9
    exact nc_mf_9
  by_cases e10 : M = 10
  · subst e10
    exact nc_mf_10
  by_cases e11 : M = 11
  · subst e11
    exact nc_mf_11
  by_cases e12 : M = 12
  · subst e12
    exact nc_mf_12
  by_cases e13 : M = 13
  · subst e13
    exact nc_mf_13
  by_cases e14 : M = 14
  · subst e14
    exact nc_mf_14
  by_cases e15 : M = 15
  · subst e15
    exact nc_mf_15
  by_cases e16 : M = 16
  · subst e16
    exact nc_mf_16
  by_cases e17 : M = 17
  · subst e17
    exact nc_mf_17
  by_cases e18 : M = 18
  · subst e18
    exact nc_mf_18
  by_cases e19 : M = 19
  · subst e19
    exact nc_mf_19
  by_cases e20 : M = 20
  · subst e20
    exact nc_mf_20
  by_cases e21 : M = 21
  · subst e21
    exact nc_mf_21
  by_cases e22 : M = 22
  · subst e22
    exact nc_mf_22
  by_cases e23 : M = 23
  · subst e23
    exact nc_mf_23
  by_cases e24 : M = 24
  · subst e24
    exact nc_mf_24
  by_cases e25 : M = 25
  · subst e25
    exact nc_mf_25
  by_cases e26 : M = 26
  · subst e26
    exact nc_mf_26
  by_cases e27 : M = 27
  · subst e27
    exact nc_mf_27
  by_cases e28 : M = 28
  · subst e28
    exact nc_mf_28
  by_cases e29 : M = 29
  · subst e29
    exact nc_mf_29
  by_cases e30 : M = 30
  · subst e30
    exact nc_mf_30
  by_cases e31 : M = 31
  · subst e31
    exact nc_mf_31
  omega
theorem nc_mg_1 : ∀ M, M < 64 → 32 ≤ M → nc_MF M := by
  intro M h1 h2
  by_cases e32 : M = 32
  · subst e32
    exact nc_mf_32
  by_cases e33 : M = 33
  · subst e33
    exact nc_mf_33
  by_cases e34 : M = 34
  · subst e34
    exact nc_mf_34
  by_cases e35 : M = 35
  · subst e35
    exact nc_mf_35
  by_cases e36 : M = 36
  · subst e36
    exact nc_mf_36
  by_cases e37 : M = 37
  · subst e37
    exact nc_mf_37
  by_cases e38 : M = 38
  · subst e38
    exact nc_mf_38
  by_cases e39 : M = 39
  · subst e39
    exact nc_mf_39
  by_cases e40 : M = 40
  · subst e40
    exact nc_mf_40
  by_cases e41 : M = 41
  · subst e41
    exact nc_mf_41
  by_cases e42 : M = 42
  · subst e42
    exact nc_mf_42
  by_cases e43 : M = 43
  · subst e43
    exact nc_mf_43
  by_cases e44 : M = 44
  · subst e44
    exact nc_mf_44
  by_cases e45 : M = 45
  · subst e45
    exact nc_mf_45
  by_cases e46 : M = 46
  · subst e46
    exact nc_mf_46
  by_cases e47 : M = 47
  · subst e47
    exact nc_mf_47
  by_cases e48 : M = 48
  · subst e48
    exact nc_mf_48
  by_cases e49 : M = 49
  · subst e49
    exact nc_mf_49
  by_cases e50 : M = 50
  · subst e50
    exact nc_mf_50
  by_cases e51 : M = 51
  · subst e51
    exact nc_mf_51
  by_cases e52 : M = 52
  · subst e52
    exact nc_mf_52
  by_cases e53 : M = 53
  · subst e53
    exact nc_mf_53
  by_cases e54 : M = 54
  · subst e54
    exact nc_mf_54
  by_cases e55 : M = 55
  · subst e55
    exact nc_mf_55
  by_cases e56 : M = 56
  · subst e56
    exact nc_mf_56
  by_cases e57 : M = 57
  · subst e57
    exact nc_mf_57
  by_cases e58 : M = 58
  · subst e58
    exact nc_mf_58
  by_cases e59 : M = 59
  · subst e59
    exact nc_mf_59
  by_cases e60 : M = 60
  · subst e60
    exact nc_mf_60
  by_cases e61 : M = 61
  · subst e61
    exact nc_mf_61
  by_cases e62 : M = 62
  · subst e62
    exact nc_mf_62
  by_cases e63 : M = 63
  · subst e63
    exact nc_mf_63
  omega
theorem nc_mg_2 : ∀ M, M < 96 → 64 ≤ M → nc_MF M := by
  intro M h1 h2
  by_cases e64 : M = 64
  · subst e64
    exact nc_mf_64
  by_cases e65 : M = 65
  · subst e65
    exact nc_mf_65
  by_cases e66 : M = 66
  · subst e66
    exact nc_mf_66
  by_cases e67 : M = 67
  · subst e67
    exact nc_mf_67
  by_cases e68 : M = 68
  · subst e68
    exact nc_mf_68
  by_cases e69 : M = 69
  · subst e69
    exact nc_mf_69
  by_cases e70 : M = 70
  · subst e70
    exact nc_mf_70
  by_cases e71 : M = 71
  · subst e71
    exact nc_mf_71
  by_cases e72 : M = 72
  · subst e72
    exact nc_mf_72
  by_cases e73 : M = 73
  · subst e73
    exact nc_mf_73
  by_cases e74 : M = 74
  · subst e74
    exact nc_mf_74
  by_cases e75 : M = 75
  · subst e75
    exact nc_mf_75
  by_cases e76 : M = 76
  · subst e76
    exact nc_mf_76
  by_cases e77 : M = 77
  · subst e77
    exact nc_mf_77
  by_cases e78 : M = 78
  · subst e78
    exact nc_mf_78
  by_cases e79 : M = 79
  · subst e79
    exact nc_mf_79
  by_cases e80 : M = 80
  · subst e80
    exact nc_mf_80
  by_cases e81 : M = 81
  · subst e81
    exact nc_mf_81
  by_cases e82 : M = 82
  · subst e82
    exact nc_mf_82
  by_cases e83 : M = 83
  · subst e83
    exact nc_mf_83
  by_cases e84 : M = 84
  · subst e84
    exact nc_mf_84
  by_cases e85 : M = 85
  · subst e85
    exact nc_mf_85
  by_cases e86 : M = 86
  · subst e86
    exact nc_mf_86
  by_cases e87 : M = 87
  · subst e87
    exact nc_mf_87
  by_cases e88 : M = 88
  · subst e88
    exact nc_mf_88
  by_cases e89 : M = 89
  · subst e89
    exact nc_mf_89
  by_cases e90 : M = 90
  · subst e90
    exact nc_mf_90
  by_cases e91 : M = 91
  · subst e91
    exact nc_mf_91
  by_cases e92 : M = 92
  · subst e92
    exact nc_mf_92
  by_cases e93 : M = 93
  · subst e93
    exact nc_mf_93
  by_cases e94 : M = 94
  · subst e94
    exact nc_mf_94
  by_cases e95 : M = 95
  · subst e95
    exact nc_mf_95
  omega
theorem nc_mg_3 : ∀ M, M < 128 → 96 ≤ M → nc_MF M := by
  intro M h1 h2
  by_cases e96 : M = 96
  · subst e96
    exact nc_mf_96
  by_cases e97 : M = 97
  · subst e97
    exact nc_mf_97
  by_cases e98 : M = 98
  · subst e98
    exact nc_mf_98
  by_cases e99 : M = 99
  · subst e99
    exact nc_mf_99
  by_cases e100 : M = 100
  · subst e100
    exact nc_mf_100
  by_cases e101 : M = 101
  · subst e101
    exact nc_mf_101
  by_cases e102 : M = 102
  · subst e102
    exact nc_mf_102
  by_cases e103 : M = 103
  · subst e103
    exact nc_mf_103
  by_cases e104 : M = 104
  · subst e104
    exact nc_mf_104
  by_cases e105 : M = 105
  · subst e105
    exact nc_mf_105
  by_cases e106 : M = 106
  · subst e106
    exact nc_mf_106
  by_cases e107 : M = 107
  · subst e107
    exact nc_mf_107
  by_cases e108 : M = 108
  · subst e108
    exact nc_mf_108
  by_cases e109 : M = 109
  · subst e109
    exact nc_mf_109
  by_cases e110 : M = 110
  · subst e110
    exact nc_mf_110
  by_cases e111 : M = 111
  · subst e111
    exact nc_mf_111
  by_cases e112 : M = 112
  · subst e112
    exact nc_mf_112
  by_cases e113 : M = 113
  · subst e113
    exact nc_mf_113
  by_cases e114 : M = 114
  · subst e114
    exact nc_mf_114
  by_cases e115 : M = 115
  · subst e115
    exact nc_mf_115
  by_cases e116 : M = 116
  · subst e116
    exact nc_mf_116
  by_cases e117 : M = 117
  · subst e117
    exact nc_mf_117
  by_cases e118 : M = 118
  · subst e118
    exact nc_mf_118
  by_cases e119 : M = 119
  · subst e119
    exact nc_mf_119
  by_cases e120 : M = 120
  · subst e120
    exact nc_mf_120
  by_cases e121 : M = 121
  · subst e121
    exact nc_mf_121
  by_cases e122 : M = 122
  · subst e122
    exact nc_mf_122
  by_cases e123 : M = 123
  · subst e123
    exact nc_mf_123
  by_cases e124 : M = 124
  · subst e124
    exact nc_mf_124
  by_cases e125 : M = 125
  · subst e125
    exact nc_mf_125
  by_cases e126 : M = 126
  · subst e126
    exact nc_mf_126
  by_cases e127 : M = 127
  · subst e127
    exact nc_mf_127
  omega
theorem nc_mg_4 : ∀ M, M < 160 → 128 ≤ M → nc_MF M := by
  intro M h1 h2
  by_cases e128 : M = 128
  · subst e128
    exact nc_mf_128
  by_cases e129 : M = 129
  · subst e129
    exact nc_mf_129
  by_cases e130 : M = 130
  · subst e130
    exact nc_mf_130
  by_cases e131 : M = 131
  · subst e131
    exact nc_mf_131
  by_cases e132 : M = 132
  · subst e132
    exact nc_mf_132
  by_cases e133 : M = 133
  · subst e133
    exact nc_mf_133
  by_cases e134 : M = 134
  · subst e134
    exact nc_mf_134
  by_cases e135 : M = 135
  · subst e135
    exact nc_mf_135
  by_cases e136 : M = 136
  · subst e136
    exact nc_mf_136
  by_cases e137 : M = 137
  · subst e137
    exact nc_mf_137
  by_cases e138 : M = 138
  · subst e138
    exact nc_mf_138
  by_cases e139 : M = 139
  · subst e139
    exact nc_mf_139
  by_cases e140 : M = 140
  · subst e140
    exact nc_mf_140
  by_cases e141 : M = 141
  · subst e141
    exact nc_mf_141
  by_cases e142 : M = 142
  · subst e142
    exact nc_mf_142
  by_cases e143 : M = 143
  · subst e143
    exact nc_mf_143
  by_cases e144 : M = 144
  · subst e144
    exact nc_mf_144
  by_cases e145 : M = 145
  · subst e145
    exact nc_mf_145
  by_cases e146 : M = 146
  · subst e146
    exact nc_mf_146
  by_cases e147 : M = 147
  · subst e147
    exact nc_mf_147
  by_cases e148 : M = 148
  · subst e148
    exact nc_mf_148
  by_cases e149 : M = 149
  · subst e149
    exact nc_mf_149
  by_cases e150 : M = 150
  · subst e150
    exact nc_mf_150
  by_cases e151 : M = 151
  · subst e151
    exact nc_mf_151
  by_cases e152 : M = 152
  · subst e152
    exact nc_mf_152
  by_cases e153 : M = 153
  · subst e153
    exact nc_mf_153
  by_cases e154 : M = 154
  · subst e154
    exact nc_mf_154
  by_cases e155 : M = 155
  · subst e155
    exact nc_mf_155
  by_cases e156 : M = 156
  · subst e156
    exact nc_mf_156
  by_cases e157 : M = 157
  · subst e157
    exact nc_mf_157
  by_cases e158 : M = 158
  · subst e158
    exact nc_mf_158
  by_cases e159 : M = 159
  · subst e159
    exact nc_mf_159
  omega
theorem nc_mg_5 : ∀ M, M < 192 → 160 ≤ M → nc_MF M := by
  intro M h1 h2
  by_cases e160 : M = 160
  · subst e160
    exact nc_mf_160
  by_cases e161 : M = 161
  · subst e161
    exact nc_mf_161
  by_cases e162 : M = 162
  · subst e162
    exact nc_mf_162
  by_cases e163 : M = 163
  · subst e163
    exact nc_mf_163
  by_cases e164 : M = 164
  · subst e164
    exact nc_mf_164
  by_cases e165 : M = 165
  · subst e165
    exact nc_mf_165
  by_cases e166 : M = 166
  · subst e166
    exact nc_mf_166
  by_cases e167 : M = 167
  · subst e167
    exact nc_mf_167
  by_cases e168 : M = 168
  · subst e168
    exact nc_mf_168
  by_cases e169 : M = 169
  · subst e169
    exact nc_mf_169
  by_cases e170 : M = 170
  · subst e170
    exact nc_mf_170
  by_cases e171 : M = 171
  · subst e171
    exact nc_mf_171
  by_cases e172 : M = 172
  · subst e172
    exact nc_mf_172
  by_cases e173 : M = 173
  · subst e173
    exact nc_mf_173
  by_cases e174 : M = 174
  · subst e174
    exact nc_mf_174
  by_cases e175 : M = 175
  · subst e175
    exact nc_mf_175
  by_cases e176 : M = 176
  · subst e176
    exact nc_mf_176
  by_cases e177 : M = 177
  · subst e177
    exact nc_mf_177
  by_cases e178 : M = 178
  · subst e178
    exact nc_mf_178
  by_cases e179 : M = 179
  · subst e179
    exact nc_mf_179
  by_cases e180 : M = 180
  · subst e180
    exact nc_mf_180
  by_cases e181 : M = 181
  · subst e181
    exact nc_mf_181
  by_cases e182 : M = 182
  · subst e182
    exact nc_mf_182
  by_cases e183 : M = 183
  · subst e183
    exact nc_mf_183
  by_cases e184 : M = 184
  · subst e184
    exact nc_mf_184
  by_cases e185 : M = 185
  · subst e185
    exact nc_mf_185
  by_cases e186 : M = 186
  · subst e186
    exact nc_mf_186
  by_cases e187 : M = 187
  · subst e187
    exact nc_mf_187
  by_cases e188 : M = 188
  · subst e188
    exact nc_mf_188
  by_cases e189 : M = 189
  · subst e189
    exact nc_mf_189
  by_cases e190 : M = 190
  · subst e190
    exact nc_mf_190
  by_cases e191 : M = 191
  · subst e191
    exact nc_mf_191
  omega
theorem nc_mg_6 : ∀ M, M < 224 → 192 ≤ M → nc_MF M := by
  intro M h1 h2
  by_cases e192 : M = 192
  · subst e192
    exact nc_mf_192
  by_cases e193 : M = 193
  · subst e193
    exact nc_mf_193
  by_cases e194 : M = 194
  · subst e194
    exact nc_mf_194
  by_cases e195 : M = 195
  · subst e195
    exact nc_mf_195
  by_cases e196 : M = 196
  · subst e196
    exact nc_mf_196
  by_cases e197 : M = 197
  · subst e197
    exact nc_mf_197
  by_cases e198 : M = 198
  · subst e198
    exact nc_mf_198
  by_cases e199 : M = 199
  · subst e199
    exact nc_mf_199
  by_cases e200 : M = 200
  · subst e200
    exact nc_mf_200
  by_cases e201 : M = 201
  · subst e201
    exact nc_mf_201
  by_cases e202 : M = 202
  · subst e202
    exact nc_mf_202
  by_cases e203 : M = 203
  · subst e203
    exact nc_mf_203
  by_cases e204 : M = 204
  · subst e204
    exact nc_mf_204
  by_cases e205 : M = 205
  · subst e205
    exact nc_mf_205
  by_cases e206 : M = 206
  · subst e206
    exact nc_mf_206
  by_cases e207 : M = 207
  · subst e207
    exact nc_mf_207
  by_cases e208 : M = 208
  · subst e208
    exact nc_mf_208
  by_cases e209 : M = 209
  · subst e209
    exact nc_mf_209
  by_cases e210 : M = 210
  · subst e210
    exact nc_mf_210
  by_cases e211 : M = 211
  · subst e211
    exact nc_mf_211
  by_cases e212 : M = 212
  · subst e212
    exact nc_mf_212
  by_cases e213 : M = 213
  · subst e213
    exact nc_mf_213
  by_cases e214 : M = 214
  · subst e214
    exact nc_mf_214
  by_cases e215 : M = 215
  · subst e215
    exact nc_mf_215
  by_cases e216 : M = 216
  · subst e216
    exact nc_mf_216
  by_cases e217 : M = 217
  · subst e217
    exact nc_mf_217
  by_cases e218 : M = 218
  · subst e218
    exact nc_mf_218
  by_cases e219 : M = 219
  · subst e219
    exact nc_mf_219
  by_cases e220 : M = 220
  · subst e220
    exact nc_mf_220
  by_cases e221 : M = 221
  · subst e221
    exact nc_mf_221
  by_cases e222 : M = 222
  · subst e222
    exact nc_mf_222
  by_cases e223 : M = 223
  · subst e223
    exact nc_mf_223
  omega
theorem nc_mg_7 : ∀ M, M < 256 → 224 ≤ M → nc_MF M := by
  intro M h1 h2
  by_cases e224 : M = 224
  · subst e224
    exact nc_mf_224
  by_cases e225 : M = 225
  · subst e225
    exact nc_mf_225
  by_cases e226 : M = 226
  · subst e226
    exact nc_mf_226
  by_cases e227 : M = 227
  · subst e227
    exact nc_mf_227
  by_cases e228 : M = 228
  · subst e228
    exact nc_mf_228
  by_cases e229 : M = 229
  · subst e229
    exact nc_mf_229
  by_cases e230 : M = 230
  · subst e230
    exact nc_mf_230
  by_cases e231 : M = 231
  · subst e231
    exact nc_mf_231
  by_cases e232 : M = 232
  · subst e232
    exact nc_mf_232
  by_cases e233 : M = 233
  · subst e233
    exact nc_mf_233
  by_cases e234 : M = 234
  · subst e234
    exact nc_mf_234
  by_cases e235 : M = 235
  · subst e235
    exact nc_mf_235
  by_cases e236 : M = 236
  · subst e236
    exact nc_mf_236
  by_cases e237 : M = 237
  · subst e237
    exact nc_mf_237
  by_cases e238 : M = 238
  · subst e238
    exact nc_mf_238
  by_cases e239 : M = 239
  · subst e239
    exact nc_mf_239
  by_cases e240 : M = 240
  · subst e240
    exact nc_mf_240
  by_cases e241 : M = 241
  · subst e241
    exact nc_mf_241
  by_cases e242 : M = 242
  · subst e242
    exact nc_mf_242
  by_cases e243 : M = 243
  · subst e243
    exact nc_mf_243
  by_cases e244 : M = 244
  · subst e244
    exact nc_mf_244
  by_cases e245 : M = 245
  · subst e245
    exact nc_mf_245
  by_cases e246 : M = 246
  · subst e246
    exact nc_mf_246
  by_cases e247 : M = 247
  · subst e247
    exact nc_mf_247
  by_cases e248 : M = 248
  · subst e248
    exact nc_mf_248
  by_cases e249 : M = 249
  · subst e249
    exact nc_mf_249
  by_cases e250 : M = 250
  · subst e250
    exact nc_mf_250
  by_cases e251 : M = 251
  · subst e251
    exact nc_mf_251
  by_cases e252 : M = 252
  · subst e252
    exact nc_mf_252
  by_cases e253 : M = 253
  · subst e253
    exact nc_mf_253
  by_cases e254 : M = 254
  · subst e254
    exact nc_mf_254
  by_cases e255 : M = 255
  · subst e255
    exact nc_mf_255
  omega
theorem nc_mg_8 : ∀ M, M < 286 → 256 ≤ M → nc_MF M := by
  intro M h1 h2
  by_cases e256 : M = 256
  · subst e256
    exact nc_mf_256
  by_cases e257 : M = 257
  · subst e257
    exact nc_mf_257
  by_cases e258 : M = 258
  · subst e258
    exact nc_mf_258
  by_cases e259 : M = 259
  · subst e259
    exact nc_mf_259
  by_cases e260 : M = 260
  · subst e260
    exact nc_mf_260
  by_cases e261 : M = 261
  · subst e261
    exact nc_mf_261
  by_cases e262 : M = 262
  · subst e262
    exact nc_mf_262
  by_cases e263 : M = 263
  · subst e263
    exact nc_mf_263
  by_cases e264 : M = 264
  · subst e264
    exact nc_mf_264
  by_cases e265 : M = 265
  · subst e265
    exact nc_mf_265
  by_cases e266 : M = 266
  · subst e266
    exact nc_mf_266
  by_cases e267 : M = 267
  · subst e267
    exact nc_mf_267
  by_cases e268 : M = 268
  · subst e268
    exact nc_mf_268
  by_cases e269 : M = 269
  · subst e269
    exact nc_mf_269
  by_cases e270 : M = 270
  · subst e270
    exact nc_mf_270
  by_cases e271 : M = 271
  · subst e271
    exact nc_mf_271
  by_cases e272 : M = 272
  · subst e272
    exact nc_mf_272
  by_cases e273 : M = 273
  · subst e273
    exact nc_mf_273
  by_cases e274 : M = 274
  · subst e274
    exact nc_mf_274
  by_cases e275 : M = 275
  · subst e275
    exact nc_mf_275
  by_cases e276 : M = 276
  · subst e276
    exact nc_mf_276
  by_cases e277 : M = 277
  · subst e277
    exact nc_mf_277
  by_cases e278 : M = 278
  · subst e278
    exact nc_mf_278
  by_cases e279 : M = 279
  · subst e279
    exact nc_mf_279
  by_cases e280 : M = 280
  · subst e280
    exact nc_mf_280
  by_cases e281 : M = 281
  · subst e281
    exact nc_mf_281
  by_cases e282 : M = 282
  · subst e282
    exact nc_mf_282
  by_cases e283 : M = 283
  · subst e283
    exact nc_mf_283
  by_cases e284 : M = 284
  · subst e284
    exact nc_mf_284
  by_cases e285 : M = 285
  · subst e285
    exact nc_mf_285
  omega
theorem nc_mok (M : Nat) (h : M < nc_many) : nc_MF M := by
  have h : M < 286 := h
  by_cases q0 : M < 32
  · exact nc_mg_0 M (by omega) (by omega)
  by_cases q1 : M < 64
  · exact nc_mg_1 M (by omega) (by omega)
  by_cases q2 : M < 96
  · exact nc_mg_2 M (by omega) (by omega)
  by_cases q3 : M < 128
  · exact nc_mg_3 M (by omega) (by omega)
  by_cases q4 : M < 160
  · exact nc_mg_4 M (by omega) (by omega)
  by_cases q5 : M < 192
  · exact nc_mg_5 M (by omega) (by omega)
  by_cases q6 : M < 224
  · exact nc_mg_6 M (by omega) (by omega)
  by_cases q7 : M < 256
  · exact nc_mg_7 M (by omega) (by omega)
  by_cases q8 : M < 286
  · exact nc_mg_8 M (by omega) (by omega)
  omega
theorem nc_cn_all : ((List.range 15).all fun n => plainName (nc_cn n) && (decide (nc_cn n ≠ "java/lang/invoke/MethodHandle") && decide (nc_cn n ≠ "java/lang/invoke/VarHandle"))) = true := by decide +kernel
