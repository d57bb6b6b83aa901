/-! THE MODEL'S DAY, its four loops. -/
theorem comS_in {S : Nat → Int32} {A : Int32} {C N : Nat} {y : Int32} {c n : Nat} (hn : n < 10) : comS S A C N y (132 + 10 * c + n) = if c < C ∧ n < N ∧ S (5 + c) = y ∧ bq A (nI n) then S 76 + 1 else S (132 + 10 * c + n) := by
  unfold comS
  have e1 : (132 + 10 * c + n - 132) / 10 = c := by omega
  have e2 : (132 + 10 * c + n - 132) % 10 = n := by omega
  have e3 : (132 ≤ 132 + 10 * c + n ∧ 132 + 10 * c + n < 132 + 10 * C ∧ n < N ∧ S (5 + c) = y ∧ bq A (nI n)) ↔ (c < C ∧ n < N ∧ S (5 + c) = y ∧ bq A (nI n)) := ⟨fun ⟨q1, q2, q3⟩ => ⟨by omega, q3⟩, fun ⟨q1, q2⟩ => ⟨by omega, by omega, q2⟩⟩
  rw [e1, e2]
  simp only [e3]
theorem comS_out {S : Nat → Int32} {A : Int32} {C N : Nat} {y : Int32} {k : Nat} (h : k < 132 ∨ 132 + 10 * C ≤ k) : comS S A C N y k = S k := by
  unfold comS
  rw [if_neg (by omega)]
/-- news n comes to the cows of farm x over one of the first i hedges -/
abbrev lrn (S : Nat → Int32) (C N i : Nat) (x : Int32) (n : Nat) : Prop := ∃ q, q < i ∧ (tk S q ∧ ((S (64 + q) = x ∧ bq (fkn S C N (S (58 + q))) (nI n)) ∨ (S (58 + q) = x ∧ bq (fkn S C N (S (64 + q))) (nI n))))
def day1 (S : Nat → Int32) (d C N i : Nat) : Nat → Int32 := fun k => if 95 ≤ k ∧ k < 95 + i then S k + mof S C N (nI (k - 95)) else if 212 ≤ k ∧ k < 212 + 30 * i ∧ (k - 212) % 30 = d % 30 then mof S C N (nI ((k - 212) / 30)) else S k
def day2 (S : Nat → Int32) (d f C N i : Nat) : Nat → Int32 := fun k => if 87 ≤ k ∧ k < 87 + i then S k + mwi S C N (k - 87) 0 else day1 S d C N f k
def day3 (S : Nat → Int32) (d f C N i : Nat) : Nat → Int32 := fun k => if 132 ≤ k ∧ k < 132 + 10 * C ∧ (k - 132) % 10 < N ∧ lrn S C N i (S (5 + (k - 132) / 10)) ((k - 132) % 10) then S 76 + 1 else day2 S d f C N C k
def day4 (S : Nat → Int32) (d f C N h i : Nat) : Nat → Int32 := fun k => if 100 ≤ k ∧ k < 100 + i then 0 else if 108 ≤ k ∧ k < 108 + i then 0 else if 116 ≤ k ∧ k < 116 + i then S (k - 16) else day3 S d f C N h k
/-- s behind a day -/
def dayS (S : Nat → Int32) (d f C N h : Nat) : Nat → Int32 := fun k => if k = 76 then S 76 + 1 else day4 S d f C N h C k
section DY
variable {w : nc_H} {d f C N h i : Nat} {S : Nat → Int32}
theorem day1_o {k : Nat} (hi : i ≤ 4) (hk : k < 95 ∨ (99 ≤ k ∧ k < 212) ∨ 332 ≤ k) : day1 S d C N i k = S k := by
  unfold day1
  rw [if_neg (by omega), if_neg (by omega)]
theorem day2_o {k : Nat} (hf : f ≤ 4) (hi : i ≤ 8) (hk : k < 87 ∨ (99 ≤ k ∧ k < 212) ∨ 332 ≤ k) : day2 S d f C N i k = S k := by
  unfold day2
  rw [if_neg (by omega), day1_o hf (by omega)]
theorem day3_o {k : Nat} (hf : f ≤ 4) (hC : C ≤ 8) (hk : k < 87 ∨ (99 ≤ k ∧ k < 132) ∨ 332 ≤ k) : day3 S d f C N i k = S k := by
  unfold day3
  rw [if_neg (by omega), day2_o hf hC (by omega)]
theorem day3_in {c n : Nat} (hf : f ≤ 4) (hC : C ≤ 8) (hc : c < 8) (hn : n < 10) : day3 S d f C N i (132 + 10 * c + n) = if c < C ∧ n < N ∧ lrn S C N i (S (5 + c)) n then S 76 + 1 else S (132 + 10 * c + n) := by
  unfold day3
  have e1 : (132 + 10 * c + n - 132) / 10 = c := by omega
  have e2 : (132 + 10 * c + n - 132) % 10 = n := by omega
  have e3 : (132 ≤ 132 + 10 * c + n ∧ 132 + 10 * c + n < 132 + 10 * C ∧ n < N ∧ lrn S C N i (S (5 + c)) n) ↔ (c < C ∧ n < N ∧ lrn S C N i (S (5 + c)) n) := ⟨fun ⟨q1, q2, q3⟩ => ⟨by omega, q3⟩, fun ⟨q1, q2⟩ => ⟨by omega, by omega, q2⟩⟩
  rw [e1, e2, day2_o hf hC (by omega)]
  simp only [e3]
theorem lst (k : Nat) : (k < 132 ∨ 212 ≤ k) ∨ ∃ c n, c < 8 ∧ n < 10 ∧ k = 132 + 10 * c + n := by
  by_cases h : k < 132 ∨ 212 ≤ k
  · exact Or.inl h
  · exact Or.inr ⟨(k - 132) / 10, (k - 132) % 10, by omega, by omega, by omega⟩
def mD (t a : Nat) : Prop := a = 0 ∧ (t = 874 ∨ t = 889)
theorem md_1 (hs : shp (w.1 874 0) f C N h) (hS : w.1 874 0 = S) (hd : S 76 = nI d) (hd4 : d ≤ 400) : ∃ w', nc_Run m_X12_day 2 [some mO, some (.inl (nI 0))] [] w = nc_Run m_X12_day 66 [some mO, some (.inl (nI 0))] [] w' ∧ w'.1 874 0 = day1 S d C N f ∧ eqO mD w w' := by
  have hf : f ≤ 4 := hs.2.2.2.2.1
  have hC : C ≤ 8 := hs.2.2.2.2.2.1
  have hN : N ≤ 10 := hs.2.2.2.2.2.2.1
  have h0 := hs.1
  rw [hS] at hs h0
  refine lp (R := fun i (v : nc_H) => nc_Run m_X12_day 2 [some mO, some (.inl (nI i))] [] v) (I := fun i v => ∃ g : Nat → Int32, v = row w 874 0 g ∧ g = day1 S d C N i) (n := f) (Q := fun r => ∃ w', r = nc_Run m_X12_day 66 [some mO, some (.inl (nI 0))] [] w' ∧ w'.1 874 0 = day1 S d C N f ∧ eqO mD w w') ?_ ?_ f 0 w (by omega) ?_
  · rintro i v hi ⟨g, rfl, hg⟩
    right
    have hgi : ¬ f ≤ i := by omega
    have g0 : g 0 = nI f := by rw [hg, day1_o (by omega) (by omega)]; exact h0
    have g76 : g 76 = nI d := by rw [hg, day1_o (by omega) (by omega)]; exact hd
    have g95 : g (95 + i) = S (95 + i) := by rw [hg]; unfold day1; rw [if_neg (by omega), if_neg (by omega)]
    have hm : mfr S g := fun k hk => by rw [hg, day1_o (by omega) (by omega)]
    have sg : shp g f C N h := by
      unfold shp
      rw [hm 0 (by omega), hm 1 (by omega), hm 2 (by omega), hm 3 (by omega)]
      exact hs
    have eix : (212 + 30 * nI i) + (nI d - nI d / 30 * 30) = nI (212 + 30 * i + d % 30) := by
      rw [show (30 : Int32) = nI 30 from rfl, pk_rem (by omega) (by omega) (by omega), pk_mul, show (212 : Int32) = nI 212 from rfl, nI_add, nI_add]
    have hb : ∀ {k : Nat → Option nc_R}, nc_bd ((212 + 30 * nI i) + (nI d - nI d / 30 * 30)) 513 k = k (212 + 30 * i + d % 30) := nc_bd_of _ eix (by omega) (by decide)
    have m1 := sm_milkOf (row w 874 0 g) (by rw [row_s]; exact sg) (nI i)
    rw [row_s, mof_c hm hC hN] at m1
    have hm2 : mfr S (upd g (212 + 30 * i + d % 30) (mof S C N (nI i))) := fun k hk => by rw [upd_n (by omega)]; exact hm k hk
    have m2 := sm_milkOf (row w 874 0 (upd g (212 + 30 * i + d % 30) (mof S C N (nI i)))) (f := f) (C := C) (N := N) (h := h) (by
      rw [row_s]
      unfold shp
      rw [hm2 0 (by omega), hm2 1 (by omega), hm2 2 (by omega), hm2 3 (by omega)]
      exact hs) (nI i)
    rw [row_s, mof_c hm2 hC hN] at m2
    refine ⟨row w 874 0 (upd (upd g (212 + 30 * i + d % 30) (mof S C N (nI i))) (95 + i) (S (95 + i) + mof S C N (nI i))), ?_, _, rfl, funext fun k => ?_⟩
    · show nc_Run m_X12_day 2 _ _ _ = nc_Run m_X12_day 2 _ _ _
      rw [qr_X12_day_2]
      have u95 : upd g (212 + 30 * i + d % 30) (mof S C N (nI i)) (95 + i) = S (95 + i) := by rw [upd_n (by omega), g95]
      simp (disch := omega) only [↓m1, ↓m2, ↓hb, ↓nc_lt_v, ↓nc_li_v, ↓nc_bI_v, ↓nc_bV_v, ↓nc_bL_v, ↓nc_ll_v, ↓bd8, ↓reduceIte, ↓nc_z_tI, ↓nc_z_0, ↓nc_z_1, nI_leI, nI_ltI, nI_1, tI_ne, tI_eq0, ne_eq, not_true_eq_false, not_false_eq_true, Decidable.not_not, ↓pl_5, ↓pl_13, ↓pl_21, ↓pl_29, ↓pl_37, ↓pl_47, ↓pl_58, ↓pl_64, ↓pl_70, ↓pl_79, ↓pl_87, ↓pl_95, ↓pl_100, ↓pl_108, ↓pl_116, ↓pl_124, row_s, g0, g76, hgi, si_rw, row_r, u95]
    · rw [hg]
      unfold upd day1
      by_cases e1 : k = 95 + i
      · subst e1
        rw [if_pos rfl, if_pos (by omega), Nat.add_sub_cancel_left]
      · rw [if_neg e1]
        by_cases e2 : k = 212 + 30 * i + d % 30
        · have : (k - 212) / 30 = i := by omega
          rw [if_pos e2, if_neg (by omega), if_pos (by omega), this]
        · have q1 : (95 ≤ k ∧ k < 95 + (i + 1)) ↔ (95 ≤ k ∧ k < 95 + i) := by omega
          have q2 : (212 ≤ k ∧ k < 212 + 30 * (i + 1) ∧ (k - 212) % 30 = d % 30) ↔ (212 ≤ k ∧ k < 212 + 30 * i ∧ (k - 212) % 30 = d % 30) := by omega
          rw [if_neg e2]
          simp only [q1, q2]
  · rintro v ⟨g, rfl, hg⟩
    have g0 : g 0 = nI f := by rw [hg, day1_o (by omega) (by omega)]; exact h0
    refine ⟨row w 874 0 g, ?_, by rw [row_s, hg], eqO.rf.row ⟨rfl, Or.inl rfl⟩⟩
    show nc_Run m_X12_day 2 _ _ _ = _
    rw [qr_X12_day_2]
    simp (disch := omega) only [↓nc_lt_v, ↓nc_li_v, ↓nc_bI_v, ↓nc_bV_v, ↓nc_bL_v, ↓nc_ll_v, ↓bd8, ↓reduceIte, ↓nc_z_tI, ↓nc_z_0, ↓nc_z_1, nI_leI, nI_ltI, nI_1, tI_ne, tI_eq0, ne_eq, not_true_eq_false, not_false_eq_true, Decidable.not_not, row_s, g0, Nat.le_refl]
    rfl
  · exact ⟨w.1 874 0, row_id.symm, funext fun k => by unfold day1; rw [hS, if_neg (by omega), if_neg (by omega)]⟩
end DY
