/-! The spare dairy, cleared. -/
section CM
variable {w : nc_H}
theorem sd_clear1 : ∃ w', nc_Call m_X2_clear [.inr (.inr (2, 1))] w = some (none, w') ∧ (∀ t a, ¬ (a = 1 ∧ (t = 2 ∨ t = 236 ∨ t = 237)) → w'.1 t a = w.1 t a ∧ w'.2 t a = w.2 t a) ∧ (∀ j, j < 8 → w'.1 2 1 j = if j = 5 then 3 else 0) ∧ (∀ k, k < 22 → w'.2 236 1 k = 0) ∧ (∀ g, g < 4 → w'.1 237 1 g = 0) := by
  rw [qc_X2_clear]
  simp only [nc_lt_v, si_rw, row_s, row_r]
  generalize hF : upd (upd (upd (upd (upd (upd (upd (upd (w.1 2 1) 0 0) 1 0) 2 0) 3 0) 4 0) 5 3) 6 0) 7 0 = F
  obtain ⟨w1, a1, a2, a3, a4⟩ := s_fillL (w := row w 2 1 F) (t := 236) (a := 1) (n := 22) (by decide) (by decide) (by decide) 0
  rw [a1, nc_bV_v, s_fill (t := 237) (n := 4) (by decide) (by decide) (by decide) 0, nc_bV_v]
  refine ⟨_, rfl, fun t a q => ⟨?_, ?_⟩, fun j hj => ?_, fun k hk => ?_, fun g hg => ?_⟩
  · rw [row_n (by omega), a2, row_n (by omega)]
  · rw [row_2, a3 t a (by omega)]
    rfl
  · rw [row_t (by decide), a2, row_s, ← hF]
    have : j = 0 ∨ j = 1 ∨ j = 2 ∨ j = 3 ∨ j = 4 ∨ j = 5 ∨ j = 6 ∨ j = 7 := by omega
    rcases this with rfl | rfl | rfl | rfl | rfl | rfl | rfl | rfl <;> rfl
  · rw [row_2, a4, if_pos hk]
  · rw [row_s, if_pos hg]
end CM
