/-! THE MODEL'S DAY, its second, third and fourth loop. -/
section DZ
variable {w : nc_H} {d f C N h i : Nat} {S : Nat → Int32}
theorem shp_c {S' : Nat → Int32} (hs : shp S f C N h) (h0 : S' 0 = S 0) (h1 : S' 1 = S 1) (h2 : S' 2 = S 2) (h3 : S' 3 = S 3) : shp S' f C N h := by
  unfold shp
  rw [h0, h1, h2, h3]
  exact hs
theorem md_2 (hs : shp S f C N h) (hS : w.1 874 0 = day1 S d C N f) : ∃ w', nc_Run m_X12_day 66 [some mO, some (.inl (nI 0))] [] w = nc_Run m_X12_day 112 [some mO, some (.inl (nI 0))] [] w' ∧ w'.1 874 0 = day2 S d f C N C ∧ (∀ c, c < C → w'.1 889 0 c = kns S N c) ∧ eqO mD w w' := by
  have hf : f ≤ 4 := hs.2.2.2.2.1
  have hC : C ≤ 8 := hs.2.2.2.2.2.1
  have hN : N ≤ 10 := hs.2.2.2.2.2.2.1
  refine lp (R := fun i (v : nc_H) => nc_Run m_X12_day 66 [some mO, some (.inl (nI i))] [] v) (I := fun i v => v.1 874 0 = day2 S d f C N i ∧ (∀ c, c < i → v.1 889 0 c = kns S N c) ∧ eqO mD w v) (n := C) (Q := fun r => ∃ w', r = nc_Run m_X12_day 112 [some mO, some (.inl (nI 0))] [] w' ∧ w'.1 874 0 = day2 S d f C N C ∧ (∀ c, c < C → w'.1 889 0 c = kns S N c) ∧ eqO mD w w') ?_ ?_ C 0 w (by omega) ?_
  · rintro i v hi ⟨hg, ht, hv⟩
    right
    have hgi : ¬ C ≤ i := by omega
    have g1 : v.1 874 0 1 = nI C := by rw [hg, day2_o hf (by omega) (by omega)]; exact hs.2.1
    have g87 : v.1 874 0 (87 + i) = S (87 + i) := by rw [hg]; unfold day2; rw [if_neg (by omega), day1_o hf (by omega)]
    have hm : mfr S (v.1 874 0) := fun k hk => by rw [hg, day2_o hf (by omega) (by omega)]
    have m1 := sm_milk (c := i) v (shp_c hs (hm 0 (by omega)) (hm 1 (by omega)) (hm 2 (by omega)) (hm 3 (by omega))) (by omega)
    rw [mwi_c hm hC hN (by omega)] at m1
    have hm2 : mfr S (upd (v.1 874 0) (87 + i) (S (87 + i) + mwi S C N i 0)) := fun k hk => by rw [upd_n (by omega)]; exact hm k hk
    have m2 := sm_known (c := i) (row v 874 0 (upd (v.1 874 0) (87 + i) (S (87 + i) + mwi S C N i 0))) (f := f) (C := C) (N := N) (h := h) (by
      rw [row_s]
      exact shp_c hs (hm2 0 (by omega)) (hm2 1 (by omega)) (hm2 2 (by omega)) (hm2 3 (by omega))) (by omega)
    rw [row_s, kns_c2 hm2 hN (by omega)] at m2
    refine ⟨row (row v 874 0 (upd (v.1 874 0) (87 + i) (S (87 + i) + mwi S C N i 0))) 889 0 (upd (v.1 889 0) i (kns S N i)), ?_, ?_, ?_, ?_⟩
    · show nc_Run m_X12_day 66 _ _ _ = nc_Run m_X12_day 66 _ _ _
      rw [qr_X12_day_66]
      simp (disch := omega) only [↓m1, ↓m2, ↓nc_lt_v, ↓nc_li_v, ↓nc_bI_v, ↓nc_bV_v, ↓nc_bL_v, ↓nc_ll_v, ↓bd8, ↓reduceIte, ↓nc_z_tI, ↓nc_z_0, ↓nc_z_1, nI_leI, nI_ltI, nI_1, tI_ne, tI_eq0, ne_eq, not_true_eq_false, not_false_eq_true, Decidable.not_not, ↓pl_5, ↓pl_13, ↓pl_21, ↓pl_29, ↓pl_37, ↓pl_47, ↓pl_58, ↓pl_64, ↓pl_70, ↓pl_79, ↓pl_87, ↓pl_95, ↓pl_100, ↓pl_108, ↓pl_116, ↓pl_124, row_s, row_t, g1, hgi, si_rw, row_r, g87]
    · rw [row_t (by decide), row_s, hg]
      funext k
      unfold upd day2
      by_cases e : k = 87 + i
      · subst e
        rw [if_pos rfl, if_pos (by omega), Nat.add_sub_cancel_left]
      · have q : (87 ≤ k ∧ k < 87 + (i + 1)) ↔ (87 ≤ k ∧ k < 87 + i) := by omega
        rw [if_neg e]
        simp only [q]
    · intro c hc
      rw [row_s]
      unfold upd
      by_cases e : c = i
      · rw [if_pos e, e]
      · rw [if_neg e, ht c (by omega)]
    · exact (hv.row ⟨rfl, Or.inl rfl⟩).row ⟨rfl, Or.inr rfl⟩
  · rintro v ⟨hg, ht, hv⟩
    have g1 : v.1 874 0 1 = nI C := by rw [hg, day2_o hf (by omega) (by omega)]; exact hs.2.1
    refine ⟨v, ?_, hg, ht, hv⟩
    show nc_Run m_X12_day 66 _ _ _ = _
    rw [qr_X12_day_66]
    simp (disch := omega) only [↓nc_lt_v, ↓nc_li_v, ↓nc_bI_v, ↓nc_bV_v, ↓nc_bL_v, ↓nc_ll_v, ↓bd8, ↓reduceIte, ↓nc_z_tI, ↓nc_z_0, ↓nc_z_1, nI_leI, nI_ltI, nI_1, tI_ne, tI_eq0, ne_eq, not_true_eq_false, not_false_eq_true, Decidable.not_not, g1, Nat.le_refl]
    rfl
  · exact ⟨by rw [hS]; funext k; unfold day2; rw [if_neg (by omega)], fun c hc => absurd hc (Nat.not_lt_zero c), eqO.rf⟩
theorem fkn_t {v : nc_H} {x : Int32} (hg : ∀ c, c < C → v.1 874 0 (5 + c) = S (5 + c)) (ht : ∀ c, c < C → v.1 889 0 c = kns S N c) : it (fun c (a : Int32) => a ||| (if v.1 874 0 (5 + c) = x then v.1 889 0 c else 0)) 0 C 0 = fkn S C N x := by
  unfold fkn
  refine it_cong (n := C) (fun c a hc => ?_) C 0 0 (by omega)
  rw [hg c hc, ht c hc]
theorem md_3 (hs : shp S f C N h) (hev : ∀ k, k < h → S (70 + k) ≠ 0) (hS : w.1 874 0 = day2 S d f C N C) (hT : ∀ c, c < C → w.1 889 0 c = kns S N c) : ∃ w', nc_Run m_X12_day 112 [some mO, some (.inl (nI 0))] [] w = nc_Run m_X12_day 185 [some mO, some (.inl (nI 0))] [] w' ∧ w'.1 874 0 = day3 S d f C N h ∧ eqO mD w w' := by
  have hf : f ≤ 4 := hs.2.2.2.2.1
  have hC : C ≤ 8 := hs.2.2.2.2.2.1
  have hN : N ≤ 10 := hs.2.2.2.2.2.2.1
  have hh : h ≤ 6 := hs.2.2.2.2.2.2.2
  refine lp (R := fun i (v : nc_H) => nc_Run m_X12_day 112 [some mO, some (.inl (nI i))] [] v) (I := fun i v => v.1 874 0 = day3 S d f C N i ∧ (∀ c, c < C → v.1 889 0 c = kns S N c) ∧ eqO mD w v) (n := h) (Q := fun r => ∃ w', r = nc_Run m_X12_day 185 [some mO, some (.inl (nI 0))] [] w' ∧ w'.1 874 0 = day3 S d f C N h ∧ eqO mD w w') ?_ ?_ h 0 w (by omega) ?_
  · rintro i v hi ⟨hg, ht, hv⟩
    right
    have hgi : ¬ h ≤ i := by omega
    have hgo : ∀ k, k < 87 → v.1 874 0 k = S k := fun k hk => by rw [hg, day3_o hf hC (by omega)]
    have g3 : v.1 874 0 3 = nI h := by rw [hgo 3 (by omega)]; exact hs.2.2.2.1
    have m1 := sm_talks (k := i) v (by omega) (by rw [hgo _ (by omega)]; exact hev i hi)
    have etk : tk (v.1 874 0) i ↔ tk S i := by
      show v.1 874 0 76 + 1 - (v.1 874 0 76 + 1) / v.1 874 0 (70 + i) * v.1 874 0 (70 + i) = 0 ↔ _
      rw [hgo 76 (by omega), hgo _ (by omega)]
    by_cases kt : tk S i
    · have kt2 := etk.mpr kt
      have sg : shp (v.1 874 0) f C N h := shp_c hs (hgo 0 (by omega)) (hgo 1 (by omega)) (hgo 2 (by omega)) (hgo 3 (by omega))
      have m2 := sm_comesTo sg (S (58 + i)) (S (64 + i))
      rw [fkn_t (fun c hc => hgo _ (by omega)) ht] at m2
      have sg2 : shp ((row v 874 0 (comS (v.1 874 0) (fkn S C N (S (58 + i))) C N (S (64 + i)))).1 874 0) f C N h := by
        rw [row_s]
        exact shp_c sg (comS_out (by omega)) (comS_out (by omega)) (comS_out (by omega)) (comS_out (by omega))
      have m3 := sm_comesTo sg2 (S (64 + i)) (S (58 + i))
      rw [fkn_t (fun c hc => by rw [row_s, comS_out (by omega), hgo _ (by omega)]) (fun c hc => by rw [row_t (by decide), ht c hc]), row_s, row_r] at m3
      have r58 : comS (v.1 874 0) (fkn S C N (S (58 + i))) C N (S (64 + i)) (58 + i) = S (58 + i) := by rw [comS_out (by omega), hgo _ (by omega)]
      have r64 : comS (v.1 874 0) (fkn S C N (S (58 + i))) C N (S (64 + i)) (64 + i) = S (64 + i) := by rw [comS_out (by omega), hgo _ (by omega)]
      refine ⟨row v 874 0 (comS (comS (v.1 874 0) (fkn S C N (S (58 + i))) C N (S (64 + i))) (fkn S C N (S (64 + i))) C N (S (58 + i))), ?_, ?_, ?_, ?_⟩
      rotate_left
      · show (row v 874 0 (comS (comS (v.1 874 0) (fkn S C N (S (58 + i))) C N (S (64 + i))) (fkn S C N (S (64 + i))) C N (S (58 + i)))).1 874 0 = _
        rw [row_s]
        funext k
        rcases lst k with hk | ⟨c, n, hc, hn, rfl⟩
        · rw [comS_out (by omega), comS_out (by omega), hg]
          unfold day3
          rw [if_neg (by omega), if_neg (by omega)]
        · rw [comS_in hn, comS_in hn, comS_out (by omega), comS_out (by omega), hgo _ (by omega), hgo 76 (by omega), hg, day3_in hf hC hc hn, day3_in hf hC hc hn]
          have e : lrn S C N (i + 1) (S (5 + c)) n ↔ lrn S C N i (S (5 + c)) n ∨ (S (64 + i) = S (5 + c) ∧ bq (fkn S C N (S (58 + i))) (nI n)) ∨ (S (58 + i) = S (5 + c) ∧ bq (fkn S C N (S (64 + i))) (nI n)) := by
            constructor
            · rintro ⟨q, q1, q2⟩
              by_cases eq : q = i
              · subst eq
                exact Or.inr q2.2
              · exact Or.inl ⟨q, by omega, q2⟩
            · rintro (⟨q, q1, q2⟩ | q)
              · exact ⟨q, by omega, q2⟩
              · exact ⟨i, by omega, kt, q⟩
          by_cases b1 : c < C ∧ n < N
          · by_cases b2 : S (5 + c) = S (58 + i) ∧ bq (fkn S C N (S (64 + i))) (nI n)
            · rw [if_pos (show c < C ∧ n < N ∧ S (5 + c) = S (58 + i) ∧ bq (fkn S C N (S (64 + i))) (nI n) from ⟨b1.1, b1.2, b2⟩), if_pos (show c < C ∧ n < N ∧ lrn S C N (i + 1) (S (5 + c)) n from ⟨b1.1, b1.2, e.mpr (Or.inr (Or.inr ⟨b2.1.symm, b2.2⟩))⟩)]
            · rw [if_neg (show ¬ (c < C ∧ n < N ∧ S (5 + c) = S (58 + i) ∧ bq (fkn S C N (S (64 + i))) (nI n)) from fun q => b2 q.2.2)]
              by_cases b3 : S (5 + c) = S (64 + i) ∧ bq (fkn S C N (S (58 + i))) (nI n)
              · rw [if_pos (show c < C ∧ n < N ∧ S (5 + c) = S (64 + i) ∧ bq (fkn S C N (S (58 + i))) (nI n) from ⟨b1.1, b1.2, b3⟩), if_pos (show c < C ∧ n < N ∧ lrn S C N (i + 1) (S (5 + c)) n from ⟨b1.1, b1.2, e.mpr (Or.inr (Or.inl ⟨b3.1.symm, b3.2⟩))⟩)]
              · rw [if_neg (show ¬ (c < C ∧ n < N ∧ S (5 + c) = S (64 + i) ∧ bq (fkn S C N (S (58 + i))) (nI n)) from fun q => b3 q.2.2)]
                have e2 : lrn S C N (i + 1) (S (5 + c)) n ↔ lrn S C N i (S (5 + c)) n := by
                  rw [e]
                  exact ⟨fun q => q.elim id (fun q => q.elim (fun q => absurd ⟨q.1.symm, q.2⟩ b3) (fun q => absurd ⟨q.1.symm, q.2⟩ b2)), Or.inl⟩
                simp only [e2]
          · rw [if_neg (fun q => b1 ⟨q.1, q.2.1⟩), if_neg (fun q => b1 ⟨q.1, q.2.1⟩), if_neg (fun q => b1 ⟨q.1, q.2.1⟩), if_neg (fun q => b1 ⟨q.1, q.2.1⟩)]
      · intro c hc
        rw [row_t (by decide)]
        exact ht c hc
      · exact hv.row ⟨rfl, Or.inl rfl⟩
      · show nc_Run m_X12_day 112 _ _ _ = nc_Run m_X12_day 112 _ _ _
        rw [qr_X12_day_112]
        simp (disch := omega) only [↓m1, ↓m2, ↓m3, ↓nc_lt_v, ↓nc_li_v, ↓nc_bI_v, ↓nc_bV_v, ↓nc_bL_v, ↓nc_ll_v, ↓bd8, ↓reduceIte, ↓nc_z_tI, ↓nc_z_0, ↓nc_z_1, nI_leI, nI_ltI, nI_1, tI_ne, tI_eq0, ne_eq, not_true_eq_false, not_false_eq_true, Decidable.not_not, ↓pl_5, ↓pl_13, ↓pl_21, ↓pl_29, ↓pl_37, ↓pl_47, ↓pl_58, ↓pl_64, ↓pl_70, ↓pl_79, ↓pl_87, ↓pl_95, ↓pl_100, ↓pl_108, ↓pl_116, ↓pl_124, row_s, g3, hgi, hgo, eq_true kt2, r58, r64]
    · have kt2 : ¬ tk (v.1 874 0) i := fun q => kt (etk.mp q)
      refine ⟨v, ?_, ?_, ht, hv⟩
      · show nc_Run m_X12_day 112 _ _ _ = nc_Run m_X12_day 112 _ _ _
        rw [qr_X12_day_112]
        simp (disch := omega) only [↓m1, ↓nc_lt_v, ↓nc_li_v, ↓nc_bI_v, ↓nc_bV_v, ↓nc_bL_v, ↓nc_ll_v, ↓bd8, ↓reduceIte, ↓nc_z_tI, ↓nc_z_0, ↓nc_z_1, nI_leI, nI_ltI, nI_1, tI_ne, tI_eq0, ne_eq, not_true_eq_false, not_false_eq_true, Decidable.not_not, g3, hgi, eq_false kt2]
      · rw [hg]
        funext k
        unfold day3
        have e2 : ∀ x n, lrn S C N (i + 1) x n ↔ lrn S C N i x n := by
          intro x n
          constructor
          · rintro ⟨q, q1, q2⟩
            by_cases eq : q = i
            · subst eq
              exact absurd q2.1 kt
            · exact ⟨q, by omega, q2⟩
          · rintro ⟨q, q1, q2⟩
            exact ⟨q, by omega, q2⟩
        simp only [e2]
  · rintro v ⟨hg, ht, hv⟩
    have g3 : v.1 874 0 3 = nI h := by rw [hg, day3_o hf hC (by omega)]; exact hs.2.2.2.1
    refine ⟨v, ?_, hg, hv⟩
    show nc_Run m_X12_day 112 _ _ _ = _
    rw [qr_X12_day_112]
    simp (disch := omega) only [↓nc_lt_v, ↓nc_li_v, ↓nc_bI_v, ↓nc_bV_v, ↓nc_bL_v, ↓nc_ll_v, ↓bd8, ↓reduceIte, ↓nc_z_tI, ↓nc_z_0, ↓nc_z_1, nI_leI, nI_ltI, nI_1, tI_ne, tI_eq0, ne_eq, not_true_eq_false, not_false_eq_true, Decidable.not_not, g3, Nat.le_refl]
    rfl
  · refine ⟨?_, hT, eqO.rf⟩
    rw [hS]
    funext k
    unfold day3
    rw [if_neg (fun q => by obtain ⟨-, -, -, z, z2, -⟩ := q; exact absurd z2 (Nat.not_lt_zero z))]
theorem md_4 (hs : shp S f C N h) (hS : w.1 874 0 = day3 S d f C N h) : ∃ w', nc_Run m_X12_day 185 [some mO, some (.inl (nI 0))] [] w = some (none, w') ∧ w'.1 874 0 = dayS S d f C N h ∧ eqO mD w w' := by
  have hf : f ≤ 4 := hs.2.2.2.2.1
  have hC : C ≤ 8 := hs.2.2.2.2.2.1
  have hN : N ≤ 10 := hs.2.2.2.2.2.2.1
  have hh : h ≤ 6 := hs.2.2.2.2.2.2.2
  refine lp (R := fun i (v : nc_H) => nc_Run m_X12_day 185 [some mO, some (.inl (nI i))] [] v) (I := fun i v => v.1 874 0 = day4 S d f C N h i ∧ eqO mD w v) (n := C) (Q := fun r => ∃ w', r = some (none, w') ∧ w'.1 874 0 = dayS S d f C N h ∧ eqO mD w w') ?_ ?_ C 0 w (by omega) ?_
  · rintro i v hi ⟨hg, hv⟩
    right
    have hgi : ¬ C ≤ i := by omega
    have g1 : v.1 874 0 1 = nI C := by rw [hg]; unfold day4; rw [if_neg (by omega), if_neg (by omega), if_neg (by omega), day3_o hf hC (by omega)]; exact hs.2.1
    have g100 : v.1 874 0 (100 + i) = S (100 + i) := by rw [hg]; unfold day4; rw [if_neg (by omega), if_neg (by omega), if_neg (by omega), day3_o hf hC (by omega)]
    refine ⟨row v 874 0 (upd (upd (upd (v.1 874 0) (116 + i) (S (100 + i))) (100 + i) 0) (108 + i) 0), ?_, ?_, hv.row ⟨rfl, Or.inl rfl⟩⟩
    · show nc_Run m_X12_day 185 _ _ _ = nc_Run m_X12_day 185 _ _ _
      rw [qr_X12_day_185]
      simp (disch := omega) only [↓nc_lt_v, ↓nc_li_v, ↓nc_bI_v, ↓nc_bV_v, ↓nc_bL_v, ↓nc_ll_v, ↓bd8, ↓reduceIte, ↓nc_z_tI, ↓nc_z_0, ↓nc_z_1, nI_leI, nI_ltI, nI_1, tI_ne, tI_eq0, ne_eq, not_true_eq_false, not_false_eq_true, Decidable.not_not, ↓pl_5, ↓pl_13, ↓pl_21, ↓pl_29, ↓pl_37, ↓pl_47, ↓pl_58, ↓pl_64, ↓pl_70, ↓pl_79, ↓pl_87, ↓pl_95, ↓pl_100, ↓pl_108, ↓pl_116, ↓pl_124, row_s, row_r, si_rw, g1, hgi, g100]
    · rw [row_s, hg]
      funext k
      unfold upd day4
      by_cases e1 : k = 108 + i
      · rw [if_pos e1, if_neg (by omega), if_pos (by omega)]
      · by_cases e2 : k = 100 + i
        · rw [if_neg e1, if_pos e2, if_pos (by omega)]
        · by_cases e3 : k = 116 + i
          · subst e3
            rw [if_neg e1, if_neg e2, if_pos rfl, if_neg (by omega), if_neg (by omega), if_pos (by omega)]
            congr 1
            omega
          · have q1 : (100 ≤ k ∧ k < 100 + (i + 1)) ↔ (100 ≤ k ∧ k < 100 + i) := by omega
            have q2 : (108 ≤ k ∧ k < 108 + (i + 1)) ↔ (108 ≤ k ∧ k < 108 + i) := by omega
            have q3 : (116 ≤ k ∧ k < 116 + (i + 1)) ↔ (116 ≤ k ∧ k < 116 + i) := by omega
            rw [if_neg e1, if_neg e2, if_neg e3]
            simp only [q1, q2, q3]
  · rintro v ⟨hg, hv⟩
    have g1 : v.1 874 0 1 = nI C := by rw [hg]; unfold day4; rw [if_neg (by omega), if_neg (by omega), if_neg (by omega), day3_o hf hC (by omega)]; exact hs.2.1
    have g76 : v.1 874 0 76 = S 76 := by rw [hg]; unfold day4; rw [if_neg (by omega), if_neg (by omega), if_neg (by omega), day3_o hf hC (by omega)]
    refine ⟨row v 874 0 (upd (v.1 874 0) 76 (S 76 + 1)), ?_, ?_, hv.row ⟨rfl, Or.inl rfl⟩⟩
    · show nc_Run m_X12_day 185 _ _ _ = _
      rw [qr_X12_day_185]
      simp (disch := omega) only [↓nc_lt_v, ↓nc_li_v, ↓nc_bI_v, ↓nc_bV_v, ↓nc_bL_v, ↓nc_ll_v, ↓bd8, ↓reduceIte, ↓nc_z_tI, ↓nc_z_0, ↓nc_z_1, nI_leI, nI_ltI, nI_1, tI_ne, tI_eq0, ne_eq, not_true_eq_false, not_false_eq_true, Decidable.not_not, g1, Nat.le_refl, si_rw, g76]
    · rw [row_s, hg]
      rfl
  · exact ⟨by rw [hS]; funext k; unfold day4; rw [if_neg (by omega), if_neg (by omega), if_neg (by omega)], eqO.rf⟩
theorem sm_day (hs : shp (w.1 874 0) f C N h) (hev : ∀ k, k < h → w.1 874 0 (70 + k) ≠ 0) (hd : w.1 874 0 76 = nI d) (hd4 : d ≤ 400) : ∃ w', nc_Call m_X12_day [mO] w = some (none, w') ∧ w'.1 874 0 = dayS (w.1 874 0) d f C N h ∧ eqO mD w w' := by
  rw [qc_X12_day]
  obtain ⟨w1, a1, a2, a3⟩ := md_1 hs rfl hd hd4
  obtain ⟨w2, b1, b2, b3, b4⟩ := md_2 hs a2
  obtain ⟨w3, c1, c2, c3⟩ := md_3 hs hev b2 b3
  obtain ⟨w4, d1, d2, d3⟩ := md_4 hs c2
  exact ⟨w4, (a1.trans (b1.trans (c1.trans d1))), d2, ((a3.tr b4).tr c3).tr d3⟩
end DZ
