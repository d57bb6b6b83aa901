/-! COPIES OF A LIFE; what is kept. -/
section CP
variable {w : nc_H} {a b c d f C N h i : Nat} {S : Nat → Int32}
theorem cpi_rw {t n : Nat} : nc_cpi w t b 0 t a 0 n = row w t a (fun k => if k < n then w.1 t b k else w.1 t a k) := by
  unfold nc_cpi row
  congr 1
  funext t' a' k
  by_cases e : t' = t ∧ a' = a
  · obtain ⟨rfl, rfl⟩ := e
    by_cases e2 : k < n
    · have : 0 ≤ k ∧ k < 0 + n := by omega
      simp [e2]
    · have : ¬ (0 ≤ k ∧ k < 0 + n) := by omega
      simp [e2]
  · rw [if_neg e, if_neg (fun q => e ⟨q.1, q.2.1⟩)]
theorem row_b {t : Nat} {g : Nat → Int32} (hab : b ≠ a) : (row w t a g).1 t b = w.1 t b := row_n (fun q => hab q.2)
/-- Life a holds what Life b held -/
def cpd (w w' : nc_H) (a b : Nat) : Prop := (∀ k, 1 ≤ k → k < 5 → w'.1 7 a k = w.1 7 b k) ∧ (∀ k, k < 80 → w'.1 553 a k = w.1 553 b k) ∧ (∀ t, 554 ≤ t → t ≤ 560 → ∀ k, k < 8 → w'.1 t a k = w.1 t b k) ∧ (∀ k, k < 4 → w'.1 561 a k = w.1 561 b k) ∧ (∀ k, k < 120 → w'.1 562 a k = w.1 562 b k)
/-- the rows of Life a that a copy changes -/
def lC (a t a' : Nat) : Prop := a' = a ∧ (t = 7 ∨ (553 ≤ t ∧ t ≤ 562))
theorem sl_copyFrom (hab : b ≠ a) : ∃ w', nc_Call m_X7_copyFrom [lO a, lO b] w = some (none, w') ∧ eqO (lC a) w w' ∧ cpd w w' a b := by
  rw [qc_X7_copyFrom]
  simp (disch := omega) only [↓nc_lt_v, ↓nc_li_v, ↓nc_bI_v, ↓nc_bV_v, ↓nc_bL_v, ↓nc_ll_v, ↓bd8, ↓reduceIte, ↓nc_z_tI, ↓nc_z_0, ↓nc_z_1, nI_leI, nI_ltI, nI_1, tI_ne, tI_eq0, ne_eq, not_true_eq_false, not_false_eq_true, Decidable.not_not, si_rw, cpi_rw, row_s, row_r, row_t, row_b]
  refine ⟨_, rfl, ?_, ?_⟩
  · have T : ∀ t, 553 ≤ t ∧ t ≤ 562 → lC a t a := fun t ht => ⟨rfl, Or.inr ht⟩
    exact ((((((((((eqO.rf.row ⟨rfl, Or.inl rfl⟩).row (T 553 (by omega))).row (T 554 (by omega))).row (T 555 (by omega))).row (T 556 (by omega))).row (T 557 (by omega))).row (T 558 (by omega))).row (T 559 (by omega))).row (T 560 (by omega))).row (T 561 (by omega))).row (T 562 (by omega))
  · refine ⟨fun k h1 h5 => ?_, fun k hk => ?_, fun t h1 h2 k hk => ?_, fun k hk => ?_, fun k hk => ?_⟩
    · simp (disch := omega) only [row_s, row_t]
      have e : k = 1 ∨ k = 2 ∨ k = 3 ∨ k = 4 := by omega
      rcases e with rfl | rfl | rfl | rfl
      · simp (disch := omega) only [upd_n, upd_s]
      · simp (disch := omega) only [upd_n, upd_s]
      · simp (disch := omega) only [upd_n, upd_s]
      · simp (disch := omega) only [upd_s]
    · simp (disch := omega) only [row_s, row_t]
      rw [if_pos hk]
    · have e : t = 554 ∨ t = 555 ∨ t = 556 ∨ t = 557 ∨ t = 558 ∨ t = 559 ∨ t = 560 := by omega
      rcases e with rfl | rfl | rfl | rfl | rfl | rfl | rfl
      all_goals
        simp (disch := omega) only [row_s, row_t]
        rw [if_pos hk]
    · simp (disch := omega) only [row_s, row_t]
      rw [if_pos hk]
    · simp (disch := omega) only [row_s, row_t]
      rw [if_pos hk]
theorem LT_cp {w' : nc_H} (hc : cpd w w' a b) (hL : LT w b S) : LT w' a S := by
  obtain ⟨c1, c2, c3, c4, c5⟩ := hc
  obtain ⟨⟨h1, h2, h3⟩, h4⟩ := hL
  refine ⟨⟨?_, ?_, ?_⟩, fun c hc => ⟨?_, ?_, ?_, ?_⟩⟩
  · rw [c1 1 (by omega) (by omega), h1]
  · rw [c1 3 (by omega) (by omega), h2]
  · rw [c1 4 (by omega) (by omega), h3]
  · rw [c3 555 (by omega) (by omega) c hc, (h4 c hc).1]
  · rw [c3 556 (by omega) (by omega) c hc, (h4 c hc).2.1]
  · rw [c3 557 (by omega) (by omega) c hc, (h4 c hc).2.2.1]
  · rw [c3 558 (by omega) (by omega) c hc, (h4 c hc).2.2.2]
theorem LK_cp {w' : nc_H} (hC : C ≤ 8) (hN : N ≤ 10) (hc : cpd w w' a b) (hL : LK w b S C N) : LK w' a S C N := by
  obtain ⟨h1, h2, h3, h4, h5⟩ := hL
  refine ⟨LT_cp hc h1, ?_, fun c hc' => ?_, fun c hc' => ?_, fun c n hc' hn q => ?_⟩
  · rw [hc.1 2 (by omega) (by omega), h2]
  · rw [hc.2.2.1 559 (by omega) (by omega) c hc', h3 c hc']
  · rw [hc.2.2.1 554 (by omega) (by omega) c (by omega), h4 c hc']
  · rw [hc.2.1 _ (by omega), h5 c n hc' hn q]
theorem LG_cp {w' : nc_H} (hf : f ≤ 4) (hc : cpd w w' a b) (hL : LG w b S f) : LG w' a S f := by
  obtain ⟨h1, h2, h3⟩ := hL
  refine ⟨fun c hc' => ?_, fun g hg => ?_, fun d hd e g t hg ht htd => ?_⟩
  · rw [hc.2.2.1 560 (by omega) (by omega) c hc', h1 c hc']
  · rw [hc.2.2.2.1 g hg, h2 g hg]
  · rw [hc.2.2.2.2 _ (by omega), h3 d hd e g t hg ht htd]
theorem LR_cp {w' : nc_H} (hf : f ≤ 4) (hC : C ≤ 8) (hN : N ≤ 10) (hc : cpd w w' a b) (hL : LR w b S f C N) : LR w' a S f C N := ⟨LK_cp hC hN hc hL.1, LG_cp hf hc hL.2⟩
/-- a Life stays where its rows stay -/
theorem LK_eq {w' : nc_H} (hL : LK w a S C N) (hw : ∀ t, t = 7 ∨ (553 ≤ t ∧ t ≤ 562) → w'.1 t a = w.1 t a) : LK w' a S C N := by
  obtain ⟨h1, h2, h3, h4, h5⟩ := hL
  refine ⟨LT_eq h1 (fun t ht => hw t (by omega)), ?_, fun c hc => ?_, fun c hc => ?_, fun c n hc hn q => ?_⟩
  · rw [hw 7 (by omega), h2]
  · rw [hw 559 (by omega), h3 c hc]
  · rw [hw 554 (by omega), h4 c hc]
  · rw [hw 553 (by omega), h5 c n hc hn q]
theorem LR_eq {w' : nc_H} (hL : LR w a S f C N) (hw : ∀ t, t = 7 ∨ (553 ≤ t ∧ t ≤ 562) → w'.1 t a = w.1 t a) : LR w' a S f C N := by
  refine ⟨LK_eq hL.1 hw, ?_, ?_, ?_⟩
  · intro c hc
    rw [hw 560 (by omega)]
    exact hL.2.1 c hc
  · intro g hg
    rw [hw 561 (by omega)]
    exact hL.2.2.1 g hg
  · intro d hd e g t hg ht htd
    rw [hw 562 (by omega)]
    exact hL.2.2.2 d hd e g t hg ht htd
/-- S with the acts' part of slice i -/
def mix (S U : Nat → Int32) (i : Nat) : Nat → Int32 := fun k => if 76 ≤ k ∧ k < 332 then U (256 * i + (k - 76)) else S k
/-- the model's keep: slices behind it -/
def kpU (U S : Nat → Int32) (u : Nat) : Nat → Int32 := fun k => if 256 * (min u 7) ≤ k ∧ k < 256 * (min u 7) + 256 then S (76 + (k - 256 * min u 7)) else if u = 8 ∧ k < 1792 then U (k + 256) else U k
def mK (t a : Nat) : Prop := a = 0 ∧ (t = 12 ∨ t = 890)
theorem km_48 {u : Nat} (hu : u < 8) (hu24 : w.1 12 0 24 = nI u) : nc_Run m_X12_keep 48 [some mO, some (.inl (nI 0))] [] w = some (none, row (row w 890 0 (fun k => if 256 * u ≤ k ∧ k < 256 * u + 256 then w.1 874 0 (76 + (k - 256 * u)) else w.1 890 0 k)) 12 0 (upd (w.1 12 0) 24 (nI (u + 1)))) := by
  refine lp (R := fun i (v : nc_H) => nc_Run m_X12_keep 48 [some mO, some (.inl (nI i))] [] v) (I := fun i v => v = row w 890 0 (fun k => if 256 * u ≤ k ∧ k < 256 * u + i then w.1 874 0 (76 + (k - 256 * u)) else w.1 890 0 k)) (n := 256) (Q := fun r => r = some (none, row (row w 890 0 (fun k => if 256 * u ≤ k ∧ k < 256 * u + 256 then w.1 874 0 (76 + (k - 256 * u)) else w.1 890 0 k)) 12 0 (upd (w.1 12 0) 24 (nI (u + 1))))) ?_ ?_ 256 0 w (by omega) ?_
  · rintro i v hi rfl
    right
    refine ⟨_, ?_, rfl⟩
    have hgi : ¬ (256 : Int32) ≤ nI i := by
      rw [show (256 : Int32) = nI 256 from rfl, nI_leI (by omega) (by omega)]
      omega
    have b1 : ∀ {k : Nat → Option nc_R}, nc_bd (76 + nI i) 513 k = k (76 + i) := pl_bd 76 i (by omega)
    have b2 : ∀ {k : Nat → Option nc_R}, nc_bd (256 * nI u + nI i) 2048 k = k (256 * u + i) := nc_bd_of _ (by rw [show (256 : Int32) = nI 256 from rfl, pk_mul, nI_add]) (by omega) (by decide)
    show nc_Run m_X12_keep 48 _ _ _ = nc_Run m_X12_keep 48 _ _ _
    rw [qr_X12_keep_48]
    simp (disch := omega) only [↓nc_lt_v, ↓nc_li_v, ↓nc_bI_v, ↓nc_bV_v, ↓nc_bL_v, ↓nc_ll_v, ↓bd8, ↓reduceIte, ↓nc_z_tI, ↓nc_z_0, ↓nc_z_1, nI_leI, nI_ltI, nI_1, tI_ne, tI_eq0, ne_eq, not_true_eq_false, not_false_eq_true, Decidable.not_not, eq_false hgi, ↓b1, row_t, hu24, ↓b2, si_rw, row_s, row_r]
    congr 2
    funext k
    unfold upd
    by_cases e : k = 256 * u + i
    · have : k - 256 * u = i := by omega
      rw [if_pos e, if_pos (by omega), this]
    · have : (256 * u ≤ k ∧ k < 256 * u + (i + 1)) ↔ (256 * u ≤ k ∧ k < 256 * u + i) := by omega
      rw [if_neg e]
      simp only [this]
  · rintro v rfl
    show nc_Run m_X12_keep 48 _ _ _ = _
    rw [qr_X12_keep_48, if_pos (by decide)]
    simp (disch := omega) only [↓nc_lt_v, ↓nc_li_v, ↓nc_bI_v, ↓nc_bV_v, ↓nc_bL_v, ↓nc_ll_v, ↓bd8, ↓reduceIte, ↓nc_z_tI, ↓nc_z_0, ↓nc_z_1, nI_leI, nI_ltI, nI_1, tI_ne, tI_eq0, ne_eq, not_true_eq_false, not_false_eq_true, Decidable.not_not, si_rw, row_t, hu24]
  · have : (fun k => if 256 * u ≤ k ∧ k < 256 * u + 0 then w.1 874 0 (76 + (k - 256 * u)) else w.1 890 0 k) = w.1 890 0 := funext fun k => if_neg (by omega)
    rw [this, row_id]
theorem sm_keep {u : Nat} (hu : u ≤ 8) (hu24 : w.1 12 0 24 = nI u) : ∃ w', nc_Call m_X12_keep [mO] w = some (none, w') ∧ eqO mK w w' ∧ (∀ k, k ≠ 24 → w'.1 12 0 k = w.1 12 0 k) ∧ w'.1 12 0 24 = nI (min (u + 1) 8) ∧ w'.1 890 0 = kpU (w.1 890 0) (w.1 874 0) u := by
  rw [qc_X12_keep, hu24]
  by_cases e : u = 8
  · subst e
    rw [if_neg (fun q => q rfl)]
    have P : nc_Run m_X12_keep 11 [some mO, some (.inl (nI 0))] [] w = nc_Run m_X12_keep 48 [some mO, some (.inl (nI 0))] [] (row (row w 890 0 (fun k => if k < 1792 then w.1 890 0 (k + 256) else w.1 890 0 k)) 12 0 (upd (w.1 12 0) 24 (nI 7))) := by
      refine lp (R := fun i (v : nc_H) => nc_Run m_X12_keep 11 [some mO, some (.inl (nI i))] [] v) (I := fun i v => v = row w 890 0 (fun k => if k < i then w.1 890 0 (k + 256) else w.1 890 0 k)) (n := 1792) (Q := fun r => r = nc_Run m_X12_keep 48 [some mO, some (.inl (nI 0))] [] (row (row w 890 0 (fun k => if k < 1792 then w.1 890 0 (k + 256) else w.1 890 0 k)) 12 0 (upd (w.1 12 0) 24 (nI 7)))) ?_ ?_ 1792 0 w (by omega) ?_
      · rintro i v hi rfl
        right
        refine ⟨_, ?_, rfl⟩
        have hgi : ¬ (1792 : Int32) ≤ nI i := by
          rw [show (1792 : Int32) = nI 1792 from rfl, nI_leI (by omega) (by omega)]
          omega
        have b2 : ∀ {k : Nat → Option nc_R}, nc_bd (nI i + 256) 2048 k = k (i + 256) := nc_bd_of _ (by rw [show (256 : Int32) = nI 256 from rfl, nI_add]) (by omega) (by decide)
        show nc_Run m_X12_keep 11 _ _ _ = nc_Run m_X12_keep 11 _ _ _
        rw [qr_X12_keep_11]
        simp (disch := omega) only [↓nc_lt_v, ↓nc_li_v, ↓nc_bI_v, ↓nc_bV_v, ↓nc_bL_v, ↓nc_ll_v, ↓bd8, ↓reduceIte, ↓nc_z_tI, ↓nc_z_0, ↓nc_z_1, nI_leI, nI_ltI, nI_1, tI_ne, tI_eq0, ne_eq, not_true_eq_false, not_false_eq_true, Decidable.not_not, eq_false hgi, row_t, ↓b2, si_rw, row_s, row_r]
        congr 2
        funext k
        unfold upd
        by_cases e : k = i
        · rw [if_pos e, if_neg (by omega), if_pos (by omega), e]
        · have : k < i + 1 ↔ k < i := by omega
          rw [if_neg e]
          simp only [this]
      · rintro v rfl
        show nc_Run m_X12_keep 11 _ _ _ = _
        rw [qr_X12_keep_11, if_pos (by decide)]
        simp (disch := omega) only [↓nc_lt_v, ↓nc_li_v, ↓nc_bI_v, ↓nc_bV_v, ↓nc_bL_v, ↓nc_ll_v, ↓bd8, ↓reduceIte, ↓nc_z_tI, ↓nc_z_0, ↓nc_z_1, nI_leI, nI_ltI, nI_1, tI_ne, tI_eq0, ne_eq, not_true_eq_false, not_false_eq_true, Decidable.not_not, si_rw, row_t]
        rfl
      · have : (fun k => if k < 0 then w.1 890 0 (k + 256) else w.1 890 0 k) = w.1 890 0 := funext fun k => if_neg (by omega)
        rw [this, row_id]
    have Q := km_48 (w := row (row w 890 0 (fun k => if k < 1792 then w.1 890 0 (k + 256) else w.1 890 0 k)) 12 0 (upd (w.1 12 0) 24 (nI 7))) (u := 7) (by omega) (by rw [row_s, upd_s])
    refine ⟨_, P.trans Q, ?_, ?_, ?_, ?_⟩
    · exact (((eqO.rf.row ⟨rfl, Or.inr rfl⟩).row ⟨rfl, Or.inl rfl⟩).row ⟨rfl, Or.inr rfl⟩).row ⟨rfl, Or.inl rfl⟩
    · intro k hk
      simp (disch := omega) only [row_s, upd_n]
    · simp (disch := omega) only [row_s, upd_s]
      rfl
    · simp (disch := omega) only [row_s, row_t]
      funext k
      unfold kpU
      by_cases e : k < 1792
      · rw [if_neg (by omega), if_pos e, if_neg (by omega), if_pos (And.intro rfl e)]
      · rw [if_neg e, if_neg (fun q : 8 = 8 ∧ k < 1792 => e q.2)]
        rfl
  · have hne : nI u ≠ 8 := by
      rw [show (8 : Int32) = nI 8 from rfl, Ne, nI_eq (by omega) (by omega)]
      exact e
    rw [if_pos hne]
    have em : min (u + 1) 8 = u + 1 := by omega
    have em7 : min u 7 = u := by omega
    refine ⟨_, km_48 (by omega) hu24, (eqO.rf.row ⟨rfl, Or.inr rfl⟩).row ⟨rfl, Or.inl rfl⟩, ?_, ?_, ?_⟩
    · intro k hk
      simp (disch := omega) only [row_s, upd_n]
    · rw [row_s, upd_s, em]
    · simp (disch := omega) only [row_s, row_t]
      funext k
      unfold kpU
      rw [em7, if_neg (fun q : u = 8 ∧ k < 1792 => e q.1)]
end CP
