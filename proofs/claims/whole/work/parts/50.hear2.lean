/-! HEARING, to its end; the model's finding; milk given. -/
section HR
variable {w : nc_H} {a c n f C N h : Nat} {S : Nat → Int32}
theorem tellS_o {k : Nat} (hc : c < 8) (hn : n < 10) (hk : k < 99 ∨ (116 ≤ k ∧ k < 124) ∨ 212 ≤ k) : tellS S c n k = S k := by
  unfold tellS
  rw [if_neg (by omega), if_neg (by omega), if_neg (by omega), if_neg (by omega), if_neg (by omega)]
theorem tellS_99 (hc : c < 8) (hn : n < 10) : tellS S c n 99 = S 99 + 1 := by
  unfold tellS
  rw [if_neg (by omega), if_neg (by omega), if_neg (by omega), if_neg (by omega), if_pos rfl]
theorem tellS_100 {c' : Nat} (hc : c < 8) (hn : n < 10) (hc' : c' < 8) : tellS S c n (100 + c') = if c' = c then S (100 + c') ||| bs n else S (100 + c') := by
  unfold tellS
  by_cases e : c' = c
  · rw [if_neg (by omega), if_pos (by omega), if_pos e]
  · rw [if_neg (by omega), if_neg (by omega), if_neg (by omega), if_neg (by omega), if_neg (by omega), if_neg e]
theorem tellS_108 {c' : Nat} (hc : c < 8) (hn : n < 10) (hc' : c' < 8) : tellS S c n (108 + c') = if c' = c ∧ kn S c n then S (108 + c') ||| bs n else S (108 + c') := by
  unfold tellS
  by_cases e : c' = c ∧ kn S c n
  · rw [if_pos (And.intro (by omega) e.2), if_pos e]
  · rw [if_neg (fun q => e ⟨by omega, q.2⟩), if_neg (by omega), if_neg (by omega), if_neg (by omega), if_neg (by omega), if_neg e]
theorem tellS_124 {c' : Nat} (hc : c < 8) (hn : n < 10) (hc' : c' < 8) : tellS S c n (124 + c') = if c' = c ∧ S (37 + n) = 2 then S 76 + 1 else S (124 + c') := by
  unfold tellS
  rw [if_neg (by omega), if_neg (by omega), if_neg (by omega)]
  by_cases e : c' = c ∧ S (37 + n) = 2
  · rw [if_pos (And.intro (by omega) e.2), if_pos e]
  · rw [if_neg (fun q => e ⟨by omega, q.2⟩), if_neg (by omega), if_neg e]
theorem tellS_132 {c' n' : Nat} (hc : c < 8) (hn : n < 10) (hc' : c' < 8) (hn' : n' < 10) : tellS S c n (132 + 10 * c' + n') = if c' = c ∧ n' = n then S 76 + 1 else S (132 + 10 * c' + n') := by
  unfold tellS
  rw [if_neg (by omega), if_neg (by omega)]
  by_cases e : c' = c ∧ n' = n
  · rw [if_pos (by rw [e.1, e.2]), if_pos e]
  · rw [if_neg (by omega), if_neg (by omega), if_neg (by omega), if_neg e]
theorem wd_day (hd : dOK S) : wd (S 76 + 1) = S 76 := by
  obtain ⟨d, h1, h2⟩ := hd
  unfold wd
  rw [h2, nI_1, if_neg (nI_nle (by omega) (by omega)), nI_pred]
theorem day_1 (hd : dOK S) : S 76 + 1 - 1 = S 76 := by
  obtain ⟨d, h1, h2⟩ := hd
  rw [h2, nI_1, nI_pred]
theorem sl_hearK (hD : DR w (nc_ld a) S f C N h) (hL : LK w a S C N) (hd : dOK S) (hkp : kpOK S C) (hc : c < C) (hn : n < N) : ∃ w', nc_Call m_X7_hear [lO a, .inl (nI c), .inl (nI n)] w = some (none, w') ∧ eqO (lQ a) w w' ∧ LK w' a (tellS S c n) C N := by
  have hC : C ≤ 8 := hD.1.2.2.2.2.2.1
  have hN : N ≤ 10 := hD.1.2.2.2.2.2.2.1
  have h8 : c < 8 := by omega
  have h10 : n < 10 := by omega
  refine ⟨_, sl_hear w h8 h10, hw_eqO, ?_⟩
  have ew : w.1 242 (nc_ld a) n = S (37 + n) := (hD.2.2.2.1 n hn).1
  obtain ⟨⟨⟨a1, a2, a3⟩, a4⟩, a5, a6, a7, a8⟩ := hL
  refine ⟨⟨⟨?_, ?_, ?_⟩, fun c' hc' => ⟨?_, ?_, ?_, ?_⟩⟩, ?_, fun c' hc' => ?_, fun c' hc' => ?_, fun c' n' hc' hn' hk => ?_⟩
  · simp (disch := omega) only [hw_7, upd_n, tellS_o, a1]
  · simp (disch := omega) only [hw_7, upd_n, tellS_o, a2]
  · simp (disch := omega) only [hw_7, upd_n, tellS_o, a3]
  · simp (disch := omega) only [hw_555, tellS_100]
    unfold upd
    by_cases e : c' = c
    · rw [if_pos e, if_pos e, e, (a4 c h8).1]
    · rw [if_neg e, if_neg e, (a4 c' hc').1]
  · simp (disch := omega) only [hw_556, tellS_108]
    unfold upd
    by_cases e : c' = c
    · rw [if_pos e, e, (a4 c h8).2.1, a7 c hc, kns_bs hN hn]
      by_cases k : kn S c n
      · rw [if_pos k, if_pos (And.intro rfl k)]
      · rw [if_neg k, if_neg (fun q => k q.2), or_0]
    · rw [if_neg e, if_neg (fun q => e q.1), (a4 c' hc').2.1]
  · rw [hw_o (by decide) (by decide) (by decide) (by decide) (by decide) (by decide), tellS_o h8 h10 (by omega), (a4 c' hc').2.2.1]
  · rw [hw_558, tellS_124 h8 h10 hc']
    by_cases k : S (37 + n) = 2
    · rw [if_pos (by rw [ew]; exact k)]
      unfold upd
      by_cases e : c' = c
      · rw [if_pos e, if_pos (And.intro e k), wd_day hd, a1]
      · rw [if_neg e, if_neg (fun q => e q.1), (a4 c' hc').2.2.2]
    · rw [if_neg (by rw [ew]; exact k), if_neg (fun q => k q.2), (a4 c' hc').2.2.2]
  · simp (disch := omega) only [hw_7, upd_s, tellS_99, a5]
  · rw [hw_o (by decide) (by decide) (by decide) (by decide) (by decide) (by decide), tellS_o h8 h10 (by omega), a6 c' hc']
  · rw [hw_554, tellS_kns hd hkp hC hN hc hn hc']
    unfold upd
    by_cases e : c' = c
    · rw [if_pos e, if_pos e, e, a7 c hc]
    · rw [if_neg e, if_neg e, a7 c' hc']
  · rw [hw_553, tellS_132 h8 h10 (by omega) (by omega)]
    unfold upd
    by_cases e : c' = c ∧ n' = n
    · rw [if_pos (by rw [e.1, e.2]), if_pos e, day_1 hd, a1]
    · rw [if_neg (by omega), if_neg e]
      rcases (tellS_kn hd hkp hC hN hc hn hc' hn').mp hk with q | q
      · exact absurd q e
      · exact a8 c' n' hc' hn' q
/-- milk given stays where the rows and S stay -/
theorem LG_eq {w' : nc_H} {S' : Nat → Int32} (hG : LG w a S f) (hw : eqO (lQ a) w w') (hS : ∀ k, k = 76 ∨ (87 ≤ k ∧ k < 99) ∨ 212 ≤ k → S' k = S k) : LG w' a S' f := by
  obtain ⟨h1, h2, h3⟩ := hG
  have n0 : ¬ lQ a 560 a := fun q => by have := q.2; omega
  have n1 : ¬ lQ a 561 a := fun q => by have := q.2; omega
  have n2 : ¬ lQ a 562 a := fun q => by have := q.2; omega
  refine ⟨fun c hc => ?_, fun g hg => ?_, fun d hd e g t hg ht h => ?_⟩
  · rw [hw.2 _ _ n0, hS _ (by omega), h1 c hc]
  · rw [hw.2 _ _ n1, hS _ (by omega), h2 g hg]
  · rw [hw.2 _ _ n2, hS _ (by omega)]
    exact h3 d hd (by rw [← hS 76 (by omega)]; exact e) g t hg ht h
/-- the model's finding -/
theorem sm_finds (hs : shp (w.1 874 0) f C N h) (hn : n < N) : nc_Call m_X12_finds [mO, .inl (nI n)] w = some (none, row w 874 0 (findS (w.1 874 0) C n)) := by
  have hC : C ≤ 8 := hs.2.2.2.2.2.1
  have hN : N ≤ 10 := hs.2.2.2.2.2.2.1
  rw [qc_X12_finds, sm_driedBy w hs (by omega), nc_bI_v]
  generalize hS : w.1 874 0 = S at hs
  refine lp (R := fun i (v : nc_H) => nc_Run m_X12_finds 8 [some mO, some (.inl (nI n)), some (.inl (dbs S C n)), some (.inl (nI i))] [] v) (I := fun i v => ∃ g : Nat → Int32, v = row w 874 0 g ∧ ∀ k, g k = if 79 ≤ k ∧ k < 79 + i ∧ (¬ bq (S 77) (nI (k - 79)) ∧ kn S (k - 79) n) then S k + 1 else S k) (n := C) (Q := fun r => r = some (none, row w 874 0 (findS S C n))) ?_ ?_ C 0 w (by omega) ?_
  · rintro i v hi ⟨g, rfl, hg⟩
    right
    have hgi : ¬ C ≤ i := by omega
    have g1 : g 1 = nI C := by rw [hg, if_neg (by omega)]; exact hs.2.1
    have g77 : g 77 = S 77 := by rw [hg, if_neg (by omega)]
    have gi : g (79 + i) = S (79 + i) := by rw [hg, if_neg (by omega)]
    have ek : kn g i n ↔ kn S i n := kn_c (by rw [hg, if_neg (by omega)]) (by rw [hg, if_neg (by omega)]) (by rw [hg, if_neg (by omega)])
    have hk := sm_knows (c := i) (n := n) (row w 874 0 g) (by omega) (by omega)
    rw [row_s] at hk
    have h2 : ∀ k, (if 79 ≤ k ∧ k < 79 + (i + 1) ∧ (¬ bq (S 77) (nI (k - 79)) ∧ kn S (k - 79) n) then S k + 1 else S k) = if k = 79 + i then (if ¬ bq (S 77) (nI i) ∧ kn S i n then S (79 + i) + 1 else S (79 + i)) else g k := by
      intro k
      by_cases e : k = 79 + i
      · subst e
        rw [if_pos rfl]
        have e1 : 79 ≤ 79 + i ∧ 79 + i < 79 + (i + 1) := by omega
        simp only [Nat.add_sub_cancel_left, e1, true_and]
      · rw [if_neg e, hg]
        have e1 : k < 79 + (i + 1) ↔ k < 79 + i := by omega
        simp only [e1]
    by_cases k0 : bq (S 77) (nI i)
    · refine ⟨row w 874 0 (upd g (79 + i) (S (79 + i) + 0)), ?_, _, rfl, fun k => ?_⟩
      · show nc_Run m_X12_finds 8 _ _ _ = nc_Run m_X12_finds 8 _ _ _
        rw [qr_X12_finds_8]
        simp (disch := omega) only [↓sm_isDry, ↓nc_lt_v, ↓nc_li_v, ↓nc_bI_v, ↓nc_bV_v, ↓nc_bL_v, ↓nc_ll_v, ↓bd8, ↓reduceIte, ↓nc_z_tI, ↓nc_z_0, ↓nc_z_1, nI_leI, nI_ltI, nI_1, tI_ne, tI_eq0, ne_eq, not_true_eq_false, not_false_eq_true, Decidable.not_not, ↓pl_5, ↓pl_13, ↓pl_21, ↓pl_29, ↓pl_37, ↓pl_47, ↓pl_58, ↓pl_64, ↓pl_70, ↓pl_79, ↓pl_87, ↓pl_95, ↓pl_100, ↓pl_108, ↓pl_116, ↓pl_124, row_s, g1, hgi, g77, eq_true k0, si_rw, row_r, gi]
      · rw [h2, if_neg (show ¬ (¬ bq (S 77) (nI i) ∧ kn S i n) from fun q => q.1 k0), Int32.add_zero]
        rfl
    · by_cases k1 : kn S i n
      · have k2 := ek.mpr k1
        refine ⟨row w 874 0 (upd g (79 + i) (S (79 + i) + 1)), ?_, _, rfl, fun k => ?_⟩
        · show nc_Run m_X12_finds 8 _ _ _ = nc_Run m_X12_finds 8 _ _ _
          rw [qr_X12_finds_8]
          simp (disch := omega) only [↓sm_isDry, ↓hk, ↓nc_lt_v, ↓nc_li_v, ↓nc_bI_v, ↓nc_bV_v, ↓nc_bL_v, ↓nc_ll_v, ↓bd8, ↓reduceIte, ↓nc_z_tI, ↓nc_z_0, ↓nc_z_1, nI_leI, nI_ltI, nI_1, tI_ne, tI_eq0, ne_eq, not_true_eq_false, not_false_eq_true, Decidable.not_not, ↓pl_5, ↓pl_13, ↓pl_21, ↓pl_29, ↓pl_37, ↓pl_47, ↓pl_58, ↓pl_64, ↓pl_70, ↓pl_79, ↓pl_87, ↓pl_95, ↓pl_100, ↓pl_108, ↓pl_116, ↓pl_124, row_s, g1, hgi, g77, eq_false k0, eq_true k2, si_rw, row_r, gi]
        · rw [h2, if_pos (show ¬ bq (S 77) (nI i) ∧ kn S i n from ⟨k0, k1⟩)]
          rfl
      · have k2 : ¬ kn g i n := fun q => k1 (ek.mp q)
        refine ⟨row w 874 0 (upd g (79 + i) (S (79 + i) + 0)), ?_, _, rfl, fun k => ?_⟩
        · show nc_Run m_X12_finds 8 _ _ _ = nc_Run m_X12_finds 8 _ _ _
          rw [qr_X12_finds_8]
          simp (disch := omega) only [↓sm_isDry, ↓hk, ↓nc_lt_v, ↓nc_li_v, ↓nc_bI_v, ↓nc_bV_v, ↓nc_bL_v, ↓nc_ll_v, ↓bd8, ↓reduceIte, ↓nc_z_tI, ↓nc_z_0, ↓nc_z_1, nI_leI, nI_ltI, nI_1, tI_ne, tI_eq0, ne_eq, not_true_eq_false, not_false_eq_true, Decidable.not_not, ↓pl_5, ↓pl_13, ↓pl_21, ↓pl_29, ↓pl_37, ↓pl_47, ↓pl_58, ↓pl_64, ↓pl_70, ↓pl_79, ↓pl_87, ↓pl_95, ↓pl_100, ↓pl_108, ↓pl_116, ↓pl_124, row_s, g1, hgi, g77, eq_false k0, eq_false k2, si_rw, row_r, gi]
        · rw [h2, if_neg (show ¬ (¬ bq (S 77) (nI i) ∧ kn S i n) from fun q => k1 q.2), Int32.add_zero]
          rfl
  · rintro v ⟨g, rfl, hg⟩
    have g1 : g 1 = nI C := by rw [hg, if_neg (by omega)]; exact hs.2.1
    show nc_Run m_X12_finds 8 _ _ _ = _
    rw [qr_X12_finds_8]
    simp (disch := omega) only [↓nc_lt_v, ↓nc_li_v, ↓nc_bI_v, ↓nc_bV_v, ↓nc_bL_v, ↓nc_ll_v, ↓bd8, ↓reduceIte, ↓nc_z_tI, ↓nc_z_0, ↓nc_z_1, nI_leI, nI_ltI, nI_1, tI_ne, tI_eq0, ne_eq, not_true_eq_false, not_false_eq_true, Decidable.not_not, row_s, g1, Nat.le_refl, si_rw, row_r]
    refine congrArg (fun f => some (none, row w 874 0 f)) (funext fun k => ?_)
    have g77 : g 77 = S 77 := by rw [hg, if_neg (by omega)]
    have g78 : g 78 = S 78 := by rw [hg, if_neg (by omega)]
    rw [g77, upd_n (show (78 : Nat) ≠ 77 by decide), g78]
    unfold upd
    by_cases e8 : k = 78
    · subst e8
      rw [if_pos rfl, findS_78]
      rfl
    · by_cases e7 : k = 77
      · subst e7
        rw [if_neg (by decide), if_pos rfl, findS_77]
      · rw [if_neg e8, if_neg e7, hg]
        unfold findS
        by_cases e : 79 ≤ k ∧ k < 79 + C
        · rw [if_pos e]
          simp only [e, true_and]
        · rw [if_neg e, if_neg e7, if_neg e8, if_neg (fun q => e ⟨q.1, q.2.1⟩)]
  · exact ⟨w.1 874 0, row_id.symm, fun k => by rw [hS, if_neg (by omega)]⟩
end HR
