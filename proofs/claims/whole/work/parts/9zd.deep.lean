/-! A sentence: depth by depth. -/
section SI
variable {b : Nat → Nat} {sz lim n f C N : Nat}
theorem sp_O9 : SpO b sz lim n f C N 9 (fun w => nc_Call m_X9_readOne_9 [sO, tO, .inr (.inr (2, 0)), .inl (nI 9)] w) := by
  refine one_step (A1 := fun _ => none) (A3 := fun _ => none) (fun w => ?_) (by decide) (fun h => absurd h (by decide)) (fun h => absurd h (by decide))
  exact qc_X9_readOne_9 1 0 0 (nI 9) w
theorem sp_A9 : SpA b sz lim n f C N 9 (fun w => nc_Call m_X9_readAll_9 [sO, tO, .inr (.inr (2, 0)), .inl (nI 9)] w) := by
  exact all_step (A := fun w => nc_Call m_X9_readOne_9 [sO, tO, .inr (.inr (2, 0)), .inl (nI 9)] w) (L := fun x w => nc_Run m_X9_readAll_9 15 [some sO, some tO, some (.inr (.inr (2, 0))), some (.inl (nI 9)), some (.inl x)] [] w) (fun w => qc_X9_readAll_9 1 0 0 (nI 9) w) (fun x w => qr_X9_readAll_9_15 1 0 0 (nI 9) x w) sp_O9 (by decide)
theorem sp_C9 : SpC b sz lim n f C N 9 (fun w => nc_Call m_X9_readCond_9 [sO, tO, .inr (.inr (2, 0)), .inl (nI 9)] w) := by
  exact any_step (A := fun w => nc_Call m_X9_readAll_9 [sO, tO, .inr (.inr (2, 0)), .inl (nI 9)] w) (L := fun x w => nc_Run m_X9_readCond_9 15 [some sO, some tO, some (.inr (.inr (2, 0))), some (.inl (nI 9)), some (.inl x)] [] w) (fun w => qc_X9_readCond_9 1 0 0 (nI 9) w) (fun x w => qr_X9_readCond_9_15 1 0 0 (nI 9) x w) sp_A9 (by decide)
theorem sp_O8 : SpO b sz lim n f C N 8 (fun w => nc_Call m_X9_readOne_8 [sO, tO, .inr (.inr (2, 0)), .inl (nI 8)] w) := by
  refine one_step (A1 := fun w => nc_Call m_X9_readOne_9 [sO, tO, .inr (.inr (2, 0)), .inl (nI 9)] w) (A3 := fun w => nc_Call m_X9_readCond_9 [sO, tO, .inr (.inr (2, 0)), .inl (nI 9)] w) (fun w => ?_) (by decide) (fun _ => sp_O9) (fun _ => sp_C9)
  have q := qc_X9_readOne_8 1 0 0 (nI 8) w
  rw [nI_1] at q
  exact q
theorem sp_A8 : SpA b sz lim n f C N 8 (fun w => nc_Call m_X9_readAll_8 [sO, tO, .inr (.inr (2, 0)), .inl (nI 8)] w) := by
  exact all_step (A := fun w => nc_Call m_X9_readOne_8 [sO, tO, .inr (.inr (2, 0)), .inl (nI 8)] w) (L := fun x w => nc_Run m_X9_readAll_8 15 [some sO, some tO, some (.inr (.inr (2, 0))), some (.inl (nI 8)), some (.inl x)] [] w) (fun w => qc_X9_readAll_8 1 0 0 (nI 8) w) (fun x w => qr_X9_readAll_8_15 1 0 0 (nI 8) x w) sp_O8 (by decide)
theorem sp_C8 : SpC b sz lim n f C N 8 (fun w => nc_Call m_X9_readCond_8 [sO, tO, .inr (.inr (2, 0)), .inl (nI 8)] w) := by
  exact any_step (A := fun w => nc_Call m_X9_readAll_8 [sO, tO, .inr (.inr (2, 0)), .inl (nI 8)] w) (L := fun x w => nc_Run m_X9_readCond_8 15 [some sO, some tO, some (.inr (.inr (2, 0))), some (.inl (nI 8)), some (.inl x)] [] w) (fun w => qc_X9_readCond_8 1 0 0 (nI 8) w) (fun x w => qr_X9_readCond_8_15 1 0 0 (nI 8) x w) sp_A8 (by decide)
theorem sp_O7 : SpO b sz lim n f C N 7 (fun w => nc_Call m_X9_readOne_7 [sO, tO, .inr (.inr (2, 0)), .inl (nI 7)] w) := by
  refine one_step (A1 := fun w => nc_Call m_X9_readOne_8 [sO, tO, .inr (.inr (2, 0)), .inl (nI 8)] w) (A3 := fun w => nc_Call m_X9_readCond_8 [sO, tO, .inr (.inr (2, 0)), .inl (nI 8)] w) (fun w => ?_) (by decide) (fun _ => sp_O8) (fun _ => sp_C8)
  have q := qc_X9_readOne_7 1 0 0 (nI 7) w
  rw [nI_1] at q
  exact q
theorem sp_A7 : SpA b sz lim n f C N 7 (fun w => nc_Call m_X9_readAll_7 [sO, tO, .inr (.inr (2, 0)), .inl (nI 7)] w) := by
  exact all_step (A := fun w => nc_Call m_X9_readOne_7 [sO, tO, .inr (.inr (2, 0)), .inl (nI 7)] w) (L := fun x w => nc_Run m_X9_readAll_7 15 [some sO, some tO, some (.inr (.inr (2, 0))), some (.inl (nI 7)), some (.inl x)] [] w) (fun w => qc_X9_readAll_7 1 0 0 (nI 7) w) (fun x w => qr_X9_readAll_7_15 1 0 0 (nI 7) x w) sp_O7 (by decide)
theorem sp_C7 : SpC b sz lim n f C N 7 (fun w => nc_Call m_X9_readCond_7 [sO, tO, .inr (.inr (2, 0)), .inl (nI 7)] w) := by
  exact any_step (A := fun w => nc_Call m_X9_readAll_7 [sO, tO, .inr (.inr (2, 0)), .inl (nI 7)] w) (L := fun x w => nc_Run m_X9_readCond_7 15 [some sO, some tO, some (.inr (.inr (2, 0))), some (.inl (nI 7)), some (.inl x)] [] w) (fun w => qc_X9_readCond_7 1 0 0 (nI 7) w) (fun x w => qr_X9_readCond_7_15 1 0 0 (nI 7) x w) sp_A7 (by decide)
theorem sp_O6 : SpO b sz lim n f C N 6 (fun w => nc_Call m_X9_readOne_6 [sO, tO, .inr (.inr (2, 0)), .inl (nI 6)] w) := by
  refine one_step (A1 := fun w => nc_Call m_X9_readOne_7 [sO, tO, .inr (.inr (2, 0)), .inl (nI 7)] w) (A3 := fun w => nc_Call m_X9_readCond_7 [sO, tO, .inr (.inr (2, 0)), .inl (nI 7)] w) (fun w => ?_) (by decide) (fun _ => sp_O7) (fun _ => sp_C7)
  have q := qc_X9_readOne_6 1 0 0 (nI 6) w
  rw [nI_1] at q
  exact q
theorem sp_A6 : SpA b sz lim n f C N 6 (fun w => nc_Call m_X9_readAll_6 [sO, tO, .inr (.inr (2, 0)), .inl (nI 6)] w) := by
  exact all_step (A := fun w => nc_Call m_X9_readOne_6 [sO, tO, .inr (.inr (2, 0)), .inl (nI 6)] w) (L := fun x w => nc_Run m_X9_readAll_6 15 [some sO, some tO, some (.inr (.inr (2, 0))), some (.inl (nI 6)), some (.inl x)] [] w) (fun w => qc_X9_readAll_6 1 0 0 (nI 6) w) (fun x w => qr_X9_readAll_6_15 1 0 0 (nI 6) x w) sp_O6 (by decide)
theorem sp_C6 : SpC b sz lim n f C N 6 (fun w => nc_Call m_X9_readCond_6 [sO, tO, .inr (.inr (2, 0)), .inl (nI 6)] w) := by
  exact any_step (A := fun w => nc_Call m_X9_readAll_6 [sO, tO, .inr (.inr (2, 0)), .inl (nI 6)] w) (L := fun x w => nc_Run m_X9_readCond_6 15 [some sO, some tO, some (.inr (.inr (2, 0))), some (.inl (nI 6)), some (.inl x)] [] w) (fun w => qc_X9_readCond_6 1 0 0 (nI 6) w) (fun x w => qr_X9_readCond_6_15 1 0 0 (nI 6) x w) sp_A6 (by decide)
theorem sp_O5 : SpO b sz lim n f C N 5 (fun w => nc_Call m_X9_readOne_5 [sO, tO, .inr (.inr (2, 0)), .inl (nI 5)] w) := by
  refine one_step (A1 := fun w => nc_Call m_X9_readOne_6 [sO, tO, .inr (.inr (2, 0)), .inl (nI 6)] w) (A3 := fun w => nc_Call m_X9_readCond_6 [sO, tO, .inr (.inr (2, 0)), .inl (nI 6)] w) (fun w => ?_) (by decide) (fun _ => sp_O6) (fun _ => sp_C6)
  have q := qc_X9_readOne_5 1 0 0 (nI 5) w
  rw [nI_1] at q
  exact q
theorem sp_A5 : SpA b sz lim n f C N 5 (fun w => nc_Call m_X9_readAll_5 [sO, tO, .inr (.inr (2, 0)), .inl (nI 5)] w) := by
  exact all_step (A := fun w => nc_Call m_X9_readOne_5 [sO, tO, .inr (.inr (2, 0)), .inl (nI 5)] w) (L := fun x w => nc_Run m_X9_readAll_5 15 [some sO, some tO, some (.inr (.inr (2, 0))), some (.inl (nI 5)), some (.inl x)] [] w) (fun w => qc_X9_readAll_5 1 0 0 (nI 5) w) (fun x w => qr_X9_readAll_5_15 1 0 0 (nI 5) x w) sp_O5 (by decide)
theorem sp_C5 : SpC b sz lim n f C N 5 (fun w => nc_Call m_X9_readCond_5 [sO, tO, .inr (.inr (2, 0)), .inl (nI 5)] w) := by
  exact any_step (A := fun w => nc_Call m_X9_readAll_5 [sO, tO, .inr (.inr (2, 0)), .inl (nI 5)] w) (L := fun x w => nc_Run m_X9_readCond_5 15 [some sO, some tO, some (.inr (.inr (2, 0))), some (.inl (nI 5)), some (.inl x)] [] w) (fun w => qc_X9_readCond_5 1 0 0 (nI 5) w) (fun x w => qr_X9_readCond_5_15 1 0 0 (nI 5) x w) sp_A5 (by decide)
theorem sp_O4 : SpO b sz lim n f C N 4 (fun w => nc_Call m_X9_readOne_4 [sO, tO, .inr (.inr (2, 0)), .inl (nI 4)] w) := by
  refine one_step (A1 := fun w => nc_Call m_X9_readOne_5 [sO, tO, .inr (.inr (2, 0)), .inl (nI 5)] w) (A3 := fun w => nc_Call m_X9_readCond_5 [sO, tO, .inr (.inr (2, 0)), .inl (nI 5)] w) (fun w => ?_) (by decide) (fun _ => sp_O5) (fun _ => sp_C5)
  have q := qc_X9_readOne_4 1 0 0 (nI 4) w
  rw [nI_1] at q
  exact q
theorem sp_A4 : SpA b sz lim n f C N 4 (fun w => nc_Call m_X9_readAll_4 [sO, tO, .inr (.inr (2, 0)), .inl (nI 4)] w) := by
  exact all_step (A := fun w => nc_Call m_X9_readOne_4 [sO, tO, .inr (.inr (2, 0)), .inl (nI 4)] w) (L := fun x w => nc_Run m_X9_readAll_4 15 [some sO, some tO, some (.inr (.inr (2, 0))), some (.inl (nI 4)), some (.inl x)] [] w) (fun w => qc_X9_readAll_4 1 0 0 (nI 4) w) (fun x w => qr_X9_readAll_4_15 1 0 0 (nI 4) x w) sp_O4 (by decide)
theorem sp_C4 : SpC b sz lim n f C N 4 (fun w => nc_Call m_X9_readCond_4 [sO, tO, .inr (.inr (2, 0)), .inl (nI 4)] w) := by
  exact any_step (A := fun w => nc_Call m_X9_readAll_4 [sO, tO, .inr (.inr (2, 0)), .inl (nI 4)] w) (L := fun x w => nc_Run m_X9_readCond_4 15 [some sO, some tO, some (.inr (.inr (2, 0))), some (.inl (nI 4)), some (.inl x)] [] w) (fun w => qc_X9_readCond_4 1 0 0 (nI 4) w) (fun x w => qr_X9_readCond_4_15 1 0 0 (nI 4) x w) sp_A4 (by decide)
theorem sp_O3 : SpO b sz lim n f C N 3 (fun w => nc_Call m_X9_readOne_3 [sO, tO, .inr (.inr (2, 0)), .inl (nI 3)] w) := by
  refine one_step (A1 := fun w => nc_Call m_X9_readOne_4 [sO, tO, .inr (.inr (2, 0)), .inl (nI 4)] w) (A3 := fun w => nc_Call m_X9_readCond_4 [sO, tO, .inr (.inr (2, 0)), .inl (nI 4)] w) (fun w => ?_) (by decide) (fun _ => sp_O4) (fun _ => sp_C4)
  have q := qc_X9_readOne_3 1 0 0 (nI 3) w
  rw [nI_1] at q
  exact q
theorem sp_A3 : SpA b sz lim n f C N 3 (fun w => nc_Call m_X9_readAll_3 [sO, tO, .inr (.inr (2, 0)), .inl (nI 3)] w) := by
  exact all_step (A := fun w => nc_Call m_X9_readOne_3 [sO, tO, .inr (.inr (2, 0)), .inl (nI 3)] w) (L := fun x w => nc_Run m_X9_readAll_3 15 [some sO, some tO, some (.inr (.inr (2, 0))), some (.inl (nI 3)), some (.inl x)] [] w) (fun w => qc_X9_readAll_3 1 0 0 (nI 3) w) (fun x w => qr_X9_readAll_3_15 1 0 0 (nI 3) x w) sp_O3 (by decide)
theorem sp_C3 : SpC b sz lim n f C N 3 (fun w => nc_Call m_X9_readCond_3 [sO, tO, .inr (.inr (2, 0)), .inl (nI 3)] w) := by
  exact any_step (A := fun w => nc_Call m_X9_readAll_3 [sO, tO, .inr (.inr (2, 0)), .inl (nI 3)] w) (L := fun x w => nc_Run m_X9_readCond_3 15 [some sO, some tO, some (.inr (.inr (2, 0))), some (.inl (nI 3)), some (.inl x)] [] w) (fun w => qc_X9_readCond_3 1 0 0 (nI 3) w) (fun x w => qr_X9_readCond_3_15 1 0 0 (nI 3) x w) sp_A3 (by decide)
theorem sp_O2 : SpO b sz lim n f C N 2 (fun w => nc_Call m_X9_readOne_2 [sO, tO, .inr (.inr (2, 0)), .inl (nI 2)] w) := by
  refine one_step (A1 := fun w => nc_Call m_X9_readOne_3 [sO, tO, .inr (.inr (2, 0)), .inl (nI 3)] w) (A3 := fun w => nc_Call m_X9_readCond_3 [sO, tO, .inr (.inr (2, 0)), .inl (nI 3)] w) (fun w => ?_) (by decide) (fun _ => sp_O3) (fun _ => sp_C3)
  have q := qc_X9_readOne_2 1 0 0 (nI 2) w
  rw [nI_1] at q
  exact q
theorem sp_A2 : SpA b sz lim n f C N 2 (fun w => nc_Call m_X9_readAll_2 [sO, tO, .inr (.inr (2, 0)), .inl (nI 2)] w) := by
  exact all_step (A := fun w => nc_Call m_X9_readOne_2 [sO, tO, .inr (.inr (2, 0)), .inl (nI 2)] w) (L := fun x w => nc_Run m_X9_readAll_2 15 [some sO, some tO, some (.inr (.inr (2, 0))), some (.inl (nI 2)), some (.inl x)] [] w) (fun w => qc_X9_readAll_2 1 0 0 (nI 2) w) (fun x w => qr_X9_readAll_2_15 1 0 0 (nI 2) x w) sp_O2 (by decide)
theorem sp_C2 : SpC b sz lim n f C N 2 (fun w => nc_Call m_X9_readCond_2 [sO, tO, .inr (.inr (2, 0)), .inl (nI 2)] w) := by
  exact any_step (A := fun w => nc_Call m_X9_readAll_2 [sO, tO, .inr (.inr (2, 0)), .inl (nI 2)] w) (L := fun x w => nc_Run m_X9_readCond_2 15 [some sO, some tO, some (.inr (.inr (2, 0))), some (.inl (nI 2)), some (.inl x)] [] w) (fun w => qc_X9_readCond_2 1 0 0 (nI 2) w) (fun x w => qr_X9_readCond_2_15 1 0 0 (nI 2) x w) sp_A2 (by decide)
theorem sp_O1 : SpO b sz lim n f C N 1 (fun w => nc_Call m_X9_readOne_1 [sO, tO, .inr (.inr (2, 0)), .inl (nI 1)] w) := by
  refine one_step (A1 := fun w => nc_Call m_X9_readOne_2 [sO, tO, .inr (.inr (2, 0)), .inl (nI 2)] w) (A3 := fun w => nc_Call m_X9_readCond_2 [sO, tO, .inr (.inr (2, 0)), .inl (nI 2)] w) (fun w => ?_) (by decide) (fun _ => sp_O2) (fun _ => sp_C2)
  have q := qc_X9_readOne_1 1 0 0 (nI 1) w
  rw [nI_1] at q
  exact q
theorem sp_A1 : SpA b sz lim n f C N 1 (fun w => nc_Call m_X9_readAll_1 [sO, tO, .inr (.inr (2, 0)), .inl (nI 1)] w) := by
  exact all_step (A := fun w => nc_Call m_X9_readOne_1 [sO, tO, .inr (.inr (2, 0)), .inl (nI 1)] w) (L := fun x w => nc_Run m_X9_readAll_1 15 [some sO, some tO, some (.inr (.inr (2, 0))), some (.inl (nI 1)), some (.inl x)] [] w) (fun w => qc_X9_readAll_1 1 0 0 (nI 1) w) (fun x w => qr_X9_readAll_1_15 1 0 0 (nI 1) x w) sp_O1 (by decide)
theorem sp_C1 : SpC b sz lim n f C N 1 (fun w => nc_Call m_X9_readCond_1 [sO, tO, .inr (.inr (2, 0)), .inl (nI 1)] w) := by
  exact any_step (A := fun w => nc_Call m_X9_readAll_1 [sO, tO, .inr (.inr (2, 0)), .inl (nI 1)] w) (L := fun x w => nc_Run m_X9_readCond_1 15 [some sO, some tO, some (.inr (.inr (2, 0))), some (.inl (nI 1)), some (.inl x)] [] w) (fun w => qc_X9_readCond_1 1 0 0 (nI 1) w) (fun x w => qr_X9_readCond_1_15 1 0 0 (nI 1) x w) sp_A1 (by decide)
end SI
