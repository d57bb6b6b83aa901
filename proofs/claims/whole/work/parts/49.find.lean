/-! FINDING OUT; frames. -/
theorem pl_5 {i : Nat} {k : Nat → Option nc_R} (h : i < 508) : nc_bd (5 + nI i) 513 k = k (5 + i) := pl_bd 5 i (by omega)
theorem pl_13 {i : Nat} {k : Nat → Option nc_R} (h : i < 500) : nc_bd (13 + nI i) 513 k = k (13 + i) := pl_bd 13 i (by omega)
theorem pl_21 {i : Nat} {k : Nat → Option nc_R} (h : i < 492) : nc_bd (21 + nI i) 513 k = k (21 + i) := pl_bd 21 i (by omega)
theorem pl_29 {i : Nat} {k : Nat → Option nc_R} (h : i < 484) : nc_bd (29 + nI i) 513 k = k (29 + i) := pl_bd 29 i (by omega)
theorem pl_37 {i : Nat} {k : Nat → Option nc_R} (h : i < 476) : nc_bd (37 + nI i) 513 k = k (37 + i) := pl_bd 37 i (by omega)
theorem pl_47 {i : Nat} {k : Nat → Option nc_R} (h : i < 466) : nc_bd (47 + nI i) 513 k = k (47 + i) := pl_bd 47 i (by omega)
theorem pl_58 {i : Nat} {k : Nat → Option nc_R} (h : i < 455) : nc_bd (58 + nI i) 513 k = k (58 + i) := pl_bd 58 i (by omega)
theorem pl_64 {i : Nat} {k : Nat → Option nc_R} (h : i < 449) : nc_bd (64 + nI i) 513 k = k (64 + i) := pl_bd 64 i (by omega)
theorem pl_70 {i : Nat} {k : Nat → Option nc_R} (h : i < 443) : nc_bd (70 + nI i) 513 k = k (70 + i) := pl_bd 70 i (by omega)
theorem pl_79 {i : Nat} {k : Nat → Option nc_R} (h : i < 434) : nc_bd (79 + nI i) 513 k = k (79 + i) := pl_bd 79 i (by omega)
theorem pl_87 {i : Nat} {k : Nat → Option nc_R} (h : i < 426) : nc_bd (87 + nI i) 513 k = k (87 + i) := pl_bd 87 i (by omega)
theorem pl_95 {i : Nat} {k : Nat → Option nc_R} (h : i < 418) : nc_bd (95 + nI i) 513 k = k (95 + i) := pl_bd 95 i (by omega)
theorem pl_100 {i : Nat} {k : Nat → Option nc_R} (h : i < 413) : nc_bd (100 + nI i) 513 k = k (100 + i) := pl_bd 100 i (by omega)
theorem pl_108 {i : Nat} {k : Nat → Option nc_R} (h : i < 405) : nc_bd (108 + nI i) 513 k = k (108 + i) := pl_bd 108 i (by omega)
theorem pl_116 {i : Nat} {k : Nat → Option nc_R} (h : i < 397) : nc_bd (116 + nI i) 513 k = k (116 + i) := pl_bd 116 i (by omega)
theorem pl_124 {i : Nat} {k : Nat → Option nc_R} (h : i < 389) : nc_bd (124 + nI i) 513 k = k (124 + i) := pl_bd 124 i (by omega)
/-! a loop of which only what holds behind it is said; Q: of the end -/
theorem lp {α : Type} {R : Nat → α → Option nc_R} {I : Nat → α → Prop} {n : Nat} {Q : Option nc_R → Prop} (hs : ∀ i a, i < n → I i a → Q (R i a) ∨ ∃ b, R i a = R (i + 1) b ∧ I (i + 1) b) (hn : ∀ a, I n a → Q (R n a)) : ∀ (k i : Nat) (a : α), i + k = n → I i a → Q (R i a)
  | 0, i, a, h, hI => by
    have e : i = n := by omega
    subst e
    exact hn a hI
  | k + 1, i, a, h, hI => by
    rcases hs i a (by omega) hI with h1 | ⟨b, h1, h2⟩
    · exact h1
    · rw [h1]
      exact lp hs hn k (i + 1) b (by omega) h2
section FD
variable {w : nc_H} {a c n f C N h : Nat} {S : Nat → Int32}
theorem sl_wouldDoubt (e3 : w.1 7 a 3 = S 77) (e4 : w.1 554 a c = kns S N c) (hN : N ≤ 10) (hc : c < 8) (hn : n < N) : nc_Call m_X7_wouldDoubt [lO a, .inl (nI c), .inl (nI n)] w = some (some (.inl (tI (¬ bq (S 77) (nI c) ∧ kn S c n))), w) := by
  have e5 : bq (kns S N c) (nI n) ↔ kn S c n := by
    rw [bq_kns hN (by omega)]
    exact ⟨fun q => q.2, fun q => ⟨hn, q⟩⟩
  by_cases h1 : bq (S 77) (nI c)
  · rw [tI_f (fun q => q.1 h1)]
    rw [qc_X7_wouldDoubt]; simp (disch := omega) only [↓sl_isDry, ↓nc_lt_v, ↓nc_li_v, ↓nc_bI_v, ↓nc_bV_v, ↓nc_bL_v, ↓nc_ll_v, ↓bd8, ↓reduceIte, ↓nc_z_tI, ↓nc_z_0, ↓nc_z_1, nI_leI, nI_ltI, nI_1, tI_ne, tI_eq0, ne_eq, not_true_eq_false, not_false_eq_true, Decidable.not_not, e3, h1]
  · by_cases h2 : kn S c n
    · have h3 := e5.mpr h2
      rw [tI_t ⟨h1, h2⟩]
      rw [qc_X7_wouldDoubt]; simp (disch := omega) only [↓sl_isDry, ↓nc_lt_v, ↓nc_li_v, ↓nc_bI_v, ↓nc_bV_v, ↓nc_bL_v, ↓nc_ll_v, ↓bd8, ↓reduceIte, ↓nc_z_tI, ↓nc_z_0, ↓nc_z_1, nI_leI, nI_ltI, nI_1, tI_ne, tI_eq0, ne_eq, not_true_eq_false, not_false_eq_true, Decidable.not_not, e3, h1, e4, h3]
    · have h3 : ¬ bq (kns S N c) (nI n) := fun q => h2 (e5.mp q)
      rw [tI_f (fun q => h2 q.2)]
      rw [qc_X7_wouldDoubt]; simp (disch := omega) only [↓sl_isDry, ↓nc_lt_v, ↓nc_li_v, ↓nc_bI_v, ↓nc_bV_v, ↓nc_bL_v, ↓nc_ll_v, ↓bd8, ↓reduceIte, ↓nc_z_tI, ↓nc_z_0, ↓nc_z_1, nI_leI, nI_ltI, nI_1, tI_ne, tI_eq0, ne_eq, not_true_eq_false, not_false_eq_true, Decidable.not_not, e3, h1, e4, h3]
theorem sl_wouldDry (hD : DR w (nc_ld a) S f C N h) (hL : LK w a S C N) (hn : n < N) : nc_Call m_X7_wouldDry [lO a, .inl (nI n)] w = some (some (.inl (dbs S C n)), w) := by
  have hC : C ≤ 8 := hD.1.2.2.2.2.2.1
  have hN : N ≤ 10 := hD.1.2.2.2.2.2.2.1
  have e2 : w.1 2 (nc_ld a) 2 = nI C := hD.2.1.2.1
  rw [qc_X7_wouldDry]
  have key := it_loop (R := fun i (x : Int32) => nc_Run m_X7_wouldDry 4 [some (lO a), some (.inl (nI n)), some (.inl x), some (.inl (nI i))] [] w) (st := fun i (x : Int32) => x ||| (if dby S n i then bs i else 0)) (I := fun _ _ => True) (n := C) (out := fun x => some (some (.inl x), w)) ?_ ?_ C 0 0 (by omega) trivial
  · exact key
  · intro i x hi _
    refine ⟨?_, trivial⟩
    have hg : ¬ C ≤ i := by omega
    have e9 : w.1 559 a i = S (79 + i) := hL.2.2.1 i (by omega)
    have e0 : w.1 240 (nc_ld a) i = S (21 + i) := (hD.2.2.1 i hi).2.2.1
    show nc_Run m_X7_wouldDry 4 _ _ w = nc_Run m_X7_wouldDry 4 _ _ w
    by_cases k1 : ¬ bq (S 77) (nI i) ∧ kn S i n
    · by_cases k3 : S (79 + i) + 1 < S (21 + i)
      · have k4 : ¬ dby S n i := fun q => q.2.2 k3
        rw [qr_X7_wouldDry_4]; simp (disch := omega) only [↓sl_wouldDoubt hL.1.1.2.1 (hL.2.2.2.1 i hi) hN (show i < 8 by omega) hn, ↓nc_lt_v, ↓nc_li_v, ↓nc_bI_v, ↓nc_bV_v, ↓nc_bL_v, ↓nc_ll_v, ↓bd8, ↓reduceIte, ↓nc_z_tI, ↓nc_z_0, ↓nc_z_1, nI_leI, nI_ltI, nI_1, tI_ne, tI_eq0, ne_eq, not_true_eq_false, not_false_eq_true, Decidable.not_not, e2, hg, eq_true k1, e9, e0, eq_true k3, eq_false k4, or_0]
      · have k4 : dby S n i := ⟨k1.1, k1.2, k3⟩
        rw [qr_X7_wouldDry_4]; simp (disch := omega) only [↓sl_wouldDoubt hL.1.1.2.1 (hL.2.2.2.1 i hi) hN (show i < 8 by omega) hn, ↓nc_lt_v, ↓nc_li_v, ↓nc_bI_v, ↓nc_bV_v, ↓nc_bL_v, ↓nc_ll_v, ↓bd8, ↓reduceIte, ↓nc_z_tI, ↓nc_z_0, ↓nc_z_1, nI_leI, nI_ltI, nI_1, tI_ne, tI_eq0, ne_eq, not_true_eq_false, not_false_eq_true, Decidable.not_not, e2, hg, eq_true k1, e9, e0, eq_false k3, eq_true k4, or_0]
        rfl
    · have k4 : ¬ dby S n i := fun q => k1 ⟨q.1, q.2.1⟩
      rw [qr_X7_wouldDry_4]; simp (disch := omega) only [↓sl_wouldDoubt hL.1.1.2.1 (hL.2.2.2.1 i hi) hN (show i < 8 by omega) hn, ↓nc_lt_v, ↓nc_li_v, ↓nc_bI_v, ↓nc_bV_v, ↓nc_bL_v, ↓nc_ll_v, ↓bd8, ↓reduceIte, ↓nc_z_tI, ↓nc_z_0, ↓nc_z_1, nI_leI, nI_ltI, nI_1, tI_ne, tI_eq0, ne_eq, not_true_eq_false, not_false_eq_true, Decidable.not_not, e2, hg, eq_false k1, eq_false k4, or_0]
  · intro x _
    show nc_Run m_X7_wouldDry 4 _ _ w = _
    rw [qr_X7_wouldDry_4]; simp (disch := omega) only [↓nc_lt_v, ↓nc_li_v, ↓nc_bI_v, ↓nc_bV_v, ↓nc_bL_v, ↓nc_ll_v, ↓bd8, ↓reduceIte, ↓nc_z_tI, ↓nc_z_0, ↓nc_z_1, nI_leI, nI_ltI, nI_1, tI_ne, tI_eq0, ne_eq, not_true_eq_false, not_false_eq_true, Decidable.not_not, e2, Nat.le_refl]
theorem DR_eq {w w' : nc_H} {d : Nat} {S S' : Nat → Int32} (hD : DR w d S f C N h) (hw : ∀ t, t = 2 ∨ (238 ≤ t ∧ t ≤ 246) → w'.1 t d = w.1 t d) (hS : ∀ k, k < 76 → S' k = S k) : DR w' d S' f C N h := by
  obtain ⟨hs, h1, h2, h3, h4⟩ := hD
  refine ⟨?_, ?_, ?_, ?_, ?_⟩
  · unfold shp
    rw [hS 0 (by omega), hS 1 (by omega), hS 2 (by omega), hS 3 (by omega)]
    exact hs
  · rw [hw 2 (by omega), hS 4 (by omega), hS 57 (by omega)]
    exact h1
  · intro c hc
    have := hs.2.2.2.2.2.1
    rw [hw 238 (by omega), hw 239 (by omega), hw 240 (by omega), hw 241 (by omega), hS _ (by omega), hS _ (by omega), hS _ (by omega), hS _ (by omega)]
    exact h2 c hc
  · intro c hc
    have := hs.2.2.2.2.2.2.1
    rw [hw 242 (by omega), hw 243 (by omega), hS _ (by omega), hS _ (by omega)]
    exact h3 c hc
  · intro c hc
    have := hs.2.2.2.2.2.2.2
    rw [hw 244 (by omega), hw 245 (by omega), hw 246 (by omega), hS _ (by omega), hS _ (by omega), hS _ (by omega)]
    exact h4 c hc
theorem row_id {w : nc_H} {t a : Nat} : row w t a (w.1 t a) = w := by
  unfold row
  refine Prod.ext (funext fun t' => funext fun a' => ?_) rfl
  show (if t' = t ∧ a' = a then w.1 t a else w.1 t' a') = w.1 t' a'
  by_cases e : t' = t ∧ a' = a
  · rw [if_pos e, e.1, e.2]
  · rw [if_neg e]
theorem kn_c {S S' : Nat → Int32} {c n : Nat} (h1 : S' 76 = S 76) (h2 : S' (29 + c) = S (29 + c)) (h3 : S' (132 + 10 * c + n) = S (132 + 10 * c + n)) : kn S' c n ↔ kn S c n := by
  show (¬ S' (132 + 10 * c + n) ≤ 0 ∧ ¬ S' (29 + c) < S' 76 - (S' (132 + 10 * c + n) - 1)) ↔ _
  rw [h1, h2, h3]
theorem kns_c {S S' : Nat → Int32} {c N : Nat} (hN : N ≤ 10) (h : ∀ n, n < N → (kn S' c n ↔ kn S c n)) : kns S' N c = kns S N c := by
  refine bq_ext (fun i hi => ?_)
  rw [bq_kns hN hi, bq_kns hN hi]
  exact ⟨fun q => ⟨q.1, (h i q.1).mp q.2⟩, fun q => ⟨q.1, (h i q.1).mpr q.2⟩⟩
/-- s behind a finding out of news n -/
def findS (S : Nat → Int32) (C n : Nat) : Nat → Int32 := fun k =>
  if 79 ≤ k ∧ k < 79 + C then (if ¬ bq (S 77) (nI (k - 79)) ∧ kn S (k - 79) n then S k + 1 else S k) else if k = 77 then S 77 ||| dbs S C n else if k = 78 then S 78 ||| bs n else S k
theorem findS_o {k : Nat} (hk : k < 77 ∨ 79 + C ≤ k) : findS S C n k = S k := by
  unfold findS
  rw [if_neg (by omega), if_neg (by omega), if_neg (by omega)]
theorem findS_77 : findS S C n 77 = S 77 ||| dbs S C n := by
  unfold findS
  rw [if_neg (by omega), if_pos rfl]
theorem findS_78 : findS S C n 78 = S 78 ||| bs n := by
  unfold findS
  rw [if_neg (by omega), if_neg (by omega), if_pos rfl]
theorem findS_79 {c : Nat} : findS S C n (79 + c) = if c < C ∧ (¬ bq (S 77) (nI c) ∧ kn S c n) then S (79 + c) + 1 else S (79 + c) := by
  unfold findS
  rw [Nat.add_sub_cancel_left]
  by_cases h1 : c < C
  · rw [if_pos (by omega)]
    simp only [h1, true_and]
  · rw [if_neg (by omega), if_neg (by omega), if_neg (by omega), if_neg (fun q => h1 q.1)]
theorem sl_findOut (hD : DR w (nc_ld a) S f C N h) (hL : LK w a S C N) (hn : n < N) : ∃ w', nc_Call m_X7_findOut [lO a, .inl (nI n)] w = some (none, w') ∧ eqO (lQ a) w w' ∧ LK w' a (findS S C n) C N := by
  have hC : C ≤ 8 := hD.1.2.2.2.2.2.1
  have hN : N ≤ 10 := hD.1.2.2.2.2.2.2.1
  rw [qc_X7_findOut, sl_wouldDry hD hL hn, nc_bI_v]
  refine lp (R := fun i (v : nc_H) => nc_Run m_X7_findOut 8 [some (lO a), some (.inl (nI n)), some (.inl (dbs S C n)), some (.inl (nI i))] [] v) (I := fun i v => ∃ g, v = row w 559 a g ∧ ∀ c, c < 8 → g c = if c < i ∧ (¬ bq (S 77) (nI c) ∧ kn S c n) then S (79 + c) + 1 else S (79 + c)) (n := C) (Q := fun r => ∃ w', r = some (none, w') ∧ eqO (lQ a) w w' ∧ LK w' a (findS S C n) C N) ?_ ?_ C 0 w (by omega) ?_
  · rintro i v hi ⟨g, rfl, hg⟩
    right
    have hgi : ¬ C ≤ i := by omega
    have e2 : (row w 559 a g).1 2 (nc_ld a) 2 = nI C := by rw [row_t (by decide)]; exact hD.2.1.2.1
    have e3 : (row w 559 a g).1 7 a 3 = S 77 := by rw [row_t (by decide)]; exact hL.1.1.2.1
    have e4 : (row w 559 a g).1 554 a i = kns S N i := by rw [row_t (by decide)]; exact hL.2.2.2.1 i hi
    by_cases k1 : ¬ bq (S 77) (nI i) ∧ kn S i n
    · refine ⟨row w 559 a (upd g i (g i + 1)), ?_, upd g i (g i + 1), rfl, fun c hc => ?_⟩
      · show nc_Run m_X7_findOut 8 _ _ _ = nc_Run m_X7_findOut 8 _ _ _
        rw [qr_X7_findOut_8]
        simp (disch := omega) only [↓sl_wouldDoubt e3 e4 hN (show i < 8 by omega) hn, ↓nc_lt_v, ↓nc_li_v, ↓nc_bI_v, ↓nc_bV_v, ↓nc_bL_v, ↓nc_ll_v, ↓bd8, ↓reduceIte, ↓nc_z_tI, ↓nc_z_0, ↓nc_z_1, nI_leI, nI_ltI, nI_1, tI_ne, tI_eq0, ne_eq, not_true_eq_false, not_false_eq_true, Decidable.not_not, e2, hgi, eq_true k1, si_rw, row_s, row_r]
      · unfold upd
        by_cases e : c = i
        · subst e
          rw [if_pos rfl, hg c hc, if_neg (fun q => Nat.lt_irrefl _ q.1), if_pos ⟨by omega, k1⟩]
        · rw [if_neg e, hg c hc]
          have : c < i + 1 ↔ c < i := by omega
          simp only [this]
    · refine ⟨row w 559 a g, ?_, g, rfl, fun c hc => ?_⟩
      · show nc_Run m_X7_findOut 8 _ _ _ = nc_Run m_X7_findOut 8 _ _ _
        rw [qr_X7_findOut_8]
        simp (disch := omega) only [↓sl_wouldDoubt e3 e4 hN (show i < 8 by omega) hn, ↓nc_lt_v, ↓nc_li_v, ↓nc_bI_v, ↓nc_bV_v, ↓nc_bL_v, ↓nc_ll_v, ↓bd8, ↓reduceIte, ↓nc_z_tI, ↓nc_z_0, ↓nc_z_1, nI_leI, nI_ltI, nI_1, tI_ne, tI_eq0, ne_eq, not_true_eq_false, not_false_eq_true, Decidable.not_not, e2, hgi, eq_false k1]
      · rw [hg c hc]
        by_cases e : c = i
        · subst e
          rw [if_neg (fun q => k1 q.2), if_neg (fun q => k1 q.2)]
        · have : c < i + 1 ↔ c < i := by omega
          simp only [this]
  · rintro v ⟨g, rfl, hg⟩
    have e2 : (row w 559 a g).1 2 (nc_ld a) 2 = nI C := by rw [row_t (by decide)]; exact hD.2.1.2.1
    refine ⟨row (row w 559 a g) 7 a (upd (upd (w.1 7 a) 3 (w.1 7 a 3 ||| dbs S C n)) 4 (w.1 7 a 4 ||| bs n)), ?_, ?_, ?_⟩
    · show nc_Run m_X7_findOut 8 _ _ _ = _
      rw [qr_X7_findOut_8]
      have e7 : (row w 559 a g).1 7 = w.1 7 := row_t (by decide)
      simp (disch := omega) only [↓nc_lt_v, ↓nc_li_v, ↓nc_bI_v, ↓nc_bV_v, ↓nc_bL_v, ↓nc_ll_v, ↓bd8, ↓reduceIte, ↓nc_z_tI, ↓nc_z_0, ↓nc_z_1, nI_leI, nI_ltI, nI_1, tI_ne, tI_eq0, ne_eq, not_true_eq_false, not_false_eq_true, Decidable.not_not, e2, Nat.le_refl, si_rw, row_s, row_r, e7]
      rfl
    · exact (eqO.rf.row ⟨rfl, Or.inr (Or.inl ⟨by decide, by decide⟩)⟩).row ⟨rfl, Or.inl rfl⟩
    · obtain ⟨⟨⟨a1, a2, a3⟩, a4⟩, a5, a6, a7, a8⟩ := hL
      have ek : ∀ c n', c < C → n' < N → (kn (findS S C n) c n' ↔ kn S c n') := fun c n' hc hn' => kn_c (findS_o (by omega)) (findS_o (by omega)) (findS_o (by omega))
      refine ⟨⟨⟨?_, ?_, ?_⟩, fun c hc => ⟨?_, ?_, ?_, ?_⟩⟩, ?_, fun c hc => ?_, fun c hc => ?_, fun c n' hc hn' hk => ?_⟩
      · simp (disch := omega) only [row_s, findS_o, upd_n, a1]
      · simp (disch := omega) only [row_s, findS_77, upd_n, upd_s, a2]
      · simp (disch := omega) only [row_s, findS_78, upd_s, a3]
      · simp (disch := omega) only [row_t, findS_o, (a4 c hc).1]
      · simp (disch := omega) only [row_t, findS_o, (a4 c hc).2.1]
      · simp (disch := omega) only [row_t, findS_o, (a4 c hc).2.2.1]
      · simp (disch := omega) only [row_t, findS_o, (a4 c hc).2.2.2]
      · simp (disch := omega) only [row_s, findS_o, upd_n, a5]
      · simp (disch := omega) only [row_t, row_s, findS_79, hg c hc]
      · simp (disch := omega) only [row_t, a7 c hc]
        exact (kns_c hN (fun n' hn' => ek c n' hc hn')).symm
      · simp (disch := omega) only [row_t, findS_o, a8 c n' hc hn' ((ek c n' hc hn').mp hk)]
  · exact ⟨w.1 559 a, (row_id).symm, fun c hc => by rw [if_neg (fun q => Nat.not_lt_zero _ q.1)]; exact hL.2.2.1 c hc⟩
end FD
