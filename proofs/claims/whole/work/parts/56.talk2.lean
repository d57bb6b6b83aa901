/-! TALK OF THE CLASS, its three loops. -/
section TL
variable {w : nc_H} {a d f C N h i : Nat} {S : Nat → Int32}
def hdg (S : Nat → Int32) (f h : Nat) : Prop := ∀ k, k < h → ∃ x y e, x < f ∧ y < f ∧ x ≠ y ∧ 1 ≤ e ∧ e ≤ 9 ∧ S (58 + k) = nI x ∧ S (64 + k) = nI y ∧ S (70 + k) = nI e
def frm (S : Nat → Int32) (f C : Nat) : Prop := ∀ c, c < C → ∃ g, g < f ∧ S (5 + c) = nI g
theorem lT_n {t a' : Nat} (h1 : t ≠ 553) (h2 : t ≠ 554) (h3 : t ≠ 563) (h4 : t ≠ 564) : ¬ lT a t a' := fun q => by have := q.2; omega
theorem tl_1 (xb : Int32) (hD : DR w (nc_ld a) S f C N h) (hkn : ∀ c, c < C → w.1 554 a c = kns S N c) (hfa : frm S f C) (h0 : ∀ g, g < 4 → w.1 563 a g = 0) :
  ∃ w', nc_Run m_X7_talk 28 [some (lO a), some (.inl xb), some (.inl (nI 0))] [] w = nc_Run m_X7_talk 70 [some (lO a), some (.inl xb), some (.inl (nI 0))] [] w' ∧ eqO (fun t a' => a' = a ∧ t = 563) w w' ∧ ∀ g, g < 4 → w'.1 563 a g = fkn S C N (nI g) := by
  have hf : f ≤ 4 := hD.1.2.2.2.2.1
  have hC : C ≤ 8 := hD.1.2.2.2.2.2.1
  refine lp (R := fun i (v : nc_H) => nc_Run m_X7_talk 28 [some (lO a), some (.inl xb), some (.inl (nI i))] [] v) (I := fun i v => eqO (fun t a' => a' = a ∧ t = 563) w v ∧ ∀ g, g < 4 → v.1 563 a g = it (fun c (a : Int32) => a ||| (if S (5 + c) = nI g then kns S N c else 0)) 0 i 0) (n := C) (Q := fun r => ∃ w', r = nc_Run m_X7_talk 70 [some (lO a), some (.inl xb), some (.inl (nI 0))] [] w' ∧ eqO (fun t a' => a' = a ∧ t = 563) w w' ∧ ∀ g, g < 4 → w'.1 563 a g = fkn S C N (nI g)) ?_ ?_ C 0 w (by omega) ?_
  · rintro i v hi ⟨q1, q2⟩
    right
    have hgi : ¬ C ≤ i := by omega
    have nG : ∀ t, t ≠ 563 → ∀ x, v.1 t x = w.1 t x := fun t n1 x => q1.2 t x (fun q => n1 q.2)
    have hDv : DR v (nc_ld a) S f C N h := DR_eq hD (fun t ht => nG t (by omega) _) (fun k _ => rfl)
    have e2 : v.1 2 (nc_ld a) 2 = nI C := hDv.2.1.2.1
    obtain ⟨g, g1, g2⟩ := hfa i hi
    have e238 : v.1 238 (nc_ld a) i = nI g := (hDv.2.2.1 i hi).1.trans g2
    have e554 : v.1 554 a i = kns S N i := by rw [nG 554 (by omega), hkn i hi]
    refine ⟨row v 563 a (upd (v.1 563 a) g (v.1 563 a g ||| kns S N i)), ?_, q1.row ⟨rfl, rfl⟩, fun g' hg' => ?_⟩
    · show nc_Run m_X7_talk 28 _ _ _ = nc_Run m_X7_talk 28 _ _ _
      rw [qr_X7_talk_28]
      simp (disch := omega) only [↓nc_lt_v, ↓nc_li_v, ↓nc_bI_v, ↓nc_bV_v, ↓nc_bL_v, ↓nc_ll_v, ↓bd8, ↓reduceIte, ↓nc_z_tI, ↓nc_z_0, ↓nc_z_1, nI_leI, nI_ltI, nI_1, tI_ne, tI_eq0, ne_eq, not_true_eq_false, not_false_eq_true, Decidable.not_not, e2, hgi, e238, e554, si_rw]
    · rw [row_s, fkp_s, g2]
      unfold upd
      by_cases e : g' = g
      · subst e
        rw [if_pos rfl, if_pos rfl, q2 g' hg']
      · rw [if_neg e, q2 g' hg', if_neg (fun q => e ((nI_eq (by omega) (by omega)).mp q).symm), or_0]
  · rintro v ⟨q1, q2⟩
    have e2 : v.1 2 (nc_ld a) 2 = nI C := by rw [q1.2 2 _ (fun q => by have := q.2; omega)]; exact hD.2.1.2.1
    refine ⟨v, ?_, q1, q2⟩
    show nc_Run m_X7_talk 28 _ _ _ = _
    rw [qr_X7_talk_28]
    simp (disch := omega) only [↓nc_lt_v, ↓nc_li_v, ↓nc_bI_v, ↓nc_bV_v, ↓nc_bL_v, ↓nc_ll_v, ↓bd8, ↓reduceIte, ↓nc_z_tI, ↓nc_z_0, ↓nc_z_1, nI_leI, nI_ltI, nI_1, tI_ne, tI_eq0, ne_eq, not_true_eq_false, not_false_eq_true, Decidable.not_not, e2, Nat.le_refl]
    rfl
  · exact ⟨eqO.rf, fun g hg => h0 g hg⟩
theorem tl_2 (hD : DR w (nc_ld a) S f C N h) (hh : hdg S f h) (hk : ∀ g, g < 4 → w.1 563 a g = fkn S C N (nI g)) (h0 : ∀ g, g < 4 → w.1 564 a g = 0) :
  ∃ w', nc_Run m_X7_talk 70 [some (lO a), some (.inl (tkb S h)), some (.inl (nI 0))] [] w = nc_Run m_X7_talk 160 [some (lO a), none, some (.inl (nI 0))] [] w' ∧ eqO (fun t a' => a' = a ∧ t = 564) w w' ∧ ∀ g, g < 4 → ∀ n, n < 32 → (bq (w'.1 564 a g) (nI n) ↔ lrn S C N h (nI g) n) := by
  have hf : f ≤ 4 := hD.1.2.2.2.2.1
  have hC : C ≤ 8 := hD.1.2.2.2.2.2.1
  have h6 : h ≤ 6 := hD.1.2.2.2.2.2.2.2
  refine lp (R := fun i (v : nc_H) => nc_Run m_X7_talk 70 [some (lO a), some (.inl (tkb S h)), some (.inl (nI i))] [] v) (I := fun i v => eqO (fun t a' => a' = a ∧ t = 564) w v ∧ ∀ g, g < 4 → ∀ n, n < 32 → (bq (v.1 564 a g) (nI n) ↔ lrn S C N i (nI g) n)) (n := h) (Q := fun r => ∃ w', r = nc_Run m_X7_talk 160 [some (lO a), none, some (.inl (nI 0))] [] w' ∧ eqO (fun t a' => a' = a ∧ t = 564) w w' ∧ ∀ g, g < 4 → ∀ n, n < 32 → (bq (w'.1 564 a g) (nI n) ↔ lrn S C N h (nI g) n)) ?_ ?_ h 0 w (by omega) ?_
  · rintro i v hi ⟨q1, q2⟩
    right
    have hgi : ¬ h ≤ i := by omega
    have nG : ∀ t, t ≠ 564 → ∀ x, v.1 t x = w.1 t x := fun t n1 x => q1.2 t x (fun q => n1 q.2)
    have hDv : DR v (nc_ld a) S f C N h := DR_eq hD (fun t ht => nG t (by omega) _) (fun k _ => rfl)
    have e4 : v.1 2 (nc_ld a) 4 = nI h := hDv.2.1.2.2.2.1
    obtain ⟨x, y, e, x1, x2, x3, x4, x5, x6, x7, x8⟩ := hh i hi
    have e244 : v.1 244 (nc_ld a) i = nI x := (hDv.2.2.2.2 i hi).1.trans x6
    have e245 : v.1 245 (nc_ld a) i = nI y := (hDv.2.2.2.2 i hi).2.1.trans x7
    have k1 : v.1 563 a x = fkn S C N (nI x) := by rw [nG 563 (by omega), hk x (by omega)]
    have k2 : v.1 563 a y = fkn S C N (nI y) := by rw [nG 563 (by omega), hk y (by omega)]
    by_cases b : tk S i
    · have b2 : bq (tkb S h) (nI i) := (bq_tkb h6 (by omega)).mpr ⟨hi, b⟩
      have e : ∀ g n, lrn S C N (i + 1) g n ↔ lrn S C N i g n ∨ (S (64 + i) = g ∧ bq (fkn S C N (S (58 + i))) (nI n)) ∨ (S (58 + i) = g ∧ bq (fkn S C N (S (64 + i))) (nI n)) := by
        intro g n
        constructor
        · rintro ⟨q, p1, p2⟩
          by_cases eq : q = i
          · subst eq
            exact Or.inr p2.2
          · exact Or.inl ⟨q, by omega, p2⟩
        · rintro (⟨q, p1, p2⟩ | q)
          · exact ⟨q, by omega, p2⟩
          · exact ⟨i, by omega, b, q⟩
      refine ⟨row v 564 a (upd (upd (v.1 564 a) x (v.1 564 a x ||| fkn S C N (nI y))) y (v.1 564 a y ||| fkn S C N (nI x))), ?_, q1.row ⟨rfl, rfl⟩, fun g hg n hn => ?_⟩
      · show nc_Run m_X7_talk 70 _ _ _ = nc_Run m_X7_talk 70 _ _ _
        rw [qr_X7_talk_70]
        have u : upd (v.1 564 a) x (v.1 564 a x ||| fkn S C N (nI y)) y = v.1 564 a y := upd_n (fun q => x3 q.symm)
        simp (disch := omega) only [↓nc_lt_v, ↓nc_li_v, ↓nc_bI_v, ↓nc_bV_v, ↓nc_bL_v, ↓nc_ll_v, ↓bd8, ↓reduceIte, ↓nc_z_tI, ↓nc_z_0, ↓nc_z_1, nI_leI, nI_ltI, nI_1, tI_ne, tI_eq0, ne_eq, not_true_eq_false, not_false_eq_true, Decidable.not_not, e4, hgi, eq_true b2, e244, e245, k1, k2, si_rw, row_s, row_r, row_t, u]
      · rw [row_s, e, x6, x7]
        unfold upd
        by_cases ey : g = y
        · subst ey
          rw [if_pos rfl, bq_or hn, q2 g hg n hn]
          refine or_congr_right ⟨fun q => Or.inl ⟨rfl, q⟩, fun q => q.elim (fun q => q.2) (fun q => ?_)⟩
          exact absurd ((nI_eq (by omega) (by omega)).mp q.1) x3
        · rw [if_neg ey]
          by_cases ex : g = x
          · subst ex
            rw [if_pos rfl, bq_or hn, q2 g hg n hn]
            refine or_congr_right ⟨fun q => Or.inr ⟨rfl, q⟩, fun q => q.elim (fun q => ?_) (fun q => q.2)⟩
            exact absurd ((nI_eq (by omega) (by omega)).mp q.1).symm x3
          · rw [if_neg ex, q2 g hg n hn]
            refine ⟨Or.inl, fun q => q.elim id (fun q => q.elim (fun q => ?_) (fun q => ?_))⟩
            · exact absurd ((nI_eq (by omega) (by omega)).mp q.1).symm ey
            · exact absurd ((nI_eq (by omega) (by omega)).mp q.1).symm ex
    · have b2 : ¬ bq (tkb S h) (nI i) := fun q => b ((bq_tkb h6 (by omega)).mp q).2
      refine ⟨v, ?_, q1, fun g hg n hn => ?_⟩
      · show nc_Run m_X7_talk 70 _ _ _ = nc_Run m_X7_talk 70 _ _ _
        rw [qr_X7_talk_70]
        simp (disch := omega) only [↓nc_lt_v, ↓nc_li_v, ↓nc_bI_v, ↓nc_bV_v, ↓nc_bL_v, ↓nc_ll_v, ↓bd8, ↓reduceIte, ↓nc_z_tI, ↓nc_z_0, ↓nc_z_1, nI_leI, nI_ltI, nI_1, tI_ne, tI_eq0, ne_eq, not_true_eq_false, not_false_eq_true, Decidable.not_not, e4, hgi, eq_false b2]
      · rw [q2 g hg n hn]
        constructor
        · rintro ⟨q, p1, p2⟩
          exact ⟨q, by omega, p2⟩
        · rintro ⟨q, p1, p2⟩
          by_cases eq : q = i
          · subst eq
            exact absurd p2.1 b
          · exact ⟨q, by omega, p2⟩
  · rintro v ⟨q1, q2⟩
    have e4 : v.1 2 (nc_ld a) 4 = nI h := by rw [q1.2 2 _ (fun q => by have := q.2; omega)]; exact hD.2.1.2.2.2.1
    refine ⟨v, ?_, q1, q2⟩
    show nc_Run m_X7_talk 70 _ _ _ = _
    rw [qr_X7_talk_70]
    simp (disch := omega) only [↓nc_lt_v, ↓nc_li_v, ↓nc_bI_v, ↓nc_bV_v, ↓nc_bL_v, ↓nc_ll_v, ↓bd8, ↓reduceIte, ↓nc_z_tI, ↓nc_z_0, ↓nc_z_1, nI_leI, nI_ltI, nI_1, tI_ne, tI_eq0, ne_eq, not_true_eq_false, not_false_eq_true, Decidable.not_not, e4, Nat.le_refl]
    rfl
  · refine ⟨eqO.rf, fun g hg n hn => ?_⟩
    rw [h0 g hg]
    exact ⟨fun q => absurd q (bq_z hn), fun ⟨q, p1, _⟩ => absurd p1 (Nat.not_lt_zero q)⟩
theorem tl_3 (hD : DR w (nc_ld a) S f C N h) (hfa : frm S f C) (hkn : ∀ c, c < C → w.1 554 a c = kns S N c) (e7 : w.1 7 a 1 = S 76) (hl : ∀ g, g < 4 → ∀ n, n < 32 → (bq (w.1 564 a g) (nI n) ↔ lrn S C N h (nI g) n)) :
  ∃ w', nc_Run m_X7_talk 160 [some (lO a), none, some (.inl (nI 0))] [] w = some (none, w') ∧ eqO (fun t a' => a' = a ∧ (t = 553 ∨ t = 554)) w w' ∧ (∀ c, c < C → ∀ n, n < 32 → (bq (w'.1 554 a c) (nI n) ↔ n < N ∧ (kn S c n ∨ lrn S C N h (S (5 + c)) n))) ∧ (∀ c n, c < C → n < N → w'.1 553 a (10 * c + n) = if lrn S C N h (S (5 + c)) n then S 76 else w.1 553 a (10 * c + n)) := by
  have hf : f ≤ 4 := hD.1.2.2.2.2.1
  have hC : C ≤ 8 := hD.1.2.2.2.2.2.1
  have hN : N ≤ 10 := hD.1.2.2.2.2.2.2.1
  refine lp (R := fun i (v : nc_H) => nc_Run m_X7_talk 160 [some (lO a), none, some (.inl (nI i))] [] v) (I := fun i v => eqO (fun t a' => a' = a ∧ (t = 553 ∨ t = 554)) w v ∧ (∀ c, c < C → ∀ n, n < 32 → (bq (v.1 554 a c) (nI n) ↔ n < N ∧ (kn S c n ∨ (c < i ∧ lrn S C N h (S (5 + c)) n)))) ∧ (∀ c n, c < C → n < N → v.1 553 a (10 * c + n) = if c < i ∧ lrn S C N h (S (5 + c)) n then S 76 else w.1 553 a (10 * c + n))) (n := C) (Q := fun r => ∃ w', r = some (none, w') ∧ eqO (fun t a' => a' = a ∧ (t = 553 ∨ t = 554)) w w' ∧ (∀ c, c < C → ∀ n, n < 32 → (bq (w'.1 554 a c) (nI n) ↔ n < N ∧ (kn S c n ∨ lrn S C N h (S (5 + c)) n))) ∧ (∀ c n, c < C → n < N → w'.1 553 a (10 * c + n) = if lrn S C N h (S (5 + c)) n then S 76 else w.1 553 a (10 * c + n))) ?_ ?_ C 0 w (by omega) ?_
  · rintro i v hi ⟨q1, q2, q3⟩
    right
    have hgi : ¬ C ≤ i := by omega
    have nG : ∀ t, t ≠ 553 → t ≠ 554 → ∀ x, v.1 t x = w.1 t x := fun t n1 n2 x => q1.2 t x (fun q => by have := q.2; omega)
    have hDv : DR v (nc_ld a) S f C N h := DR_eq hD (fun t ht => nG t (by omega) (by omega) _) (fun k _ => rfl)
    have e2 : v.1 2 (nc_ld a) 2 = nI C := hDv.2.1.2.1
    obtain ⟨g, g1, g2⟩ := hfa i hi
    have e238 : v.1 238 (nc_ld a) i = nI g := (hDv.2.2.1 i hi).1.trans g2
    have e7v : v.1 7 a 1 = S 76 := by rw [nG 7 (by omega) (by omega)]; exact e7
    have hlv : ∀ n, n < 32 → (bq (v.1 564 a g) (nI n) ↔ lrn S C N h (S (5 + i)) n) := fun n hn => by
      rw [nG 564 (by omega) (by omega), g2]
      exact hl g (by omega) n hn
    obtain ⟨v', r1, r2, r3, r4, r5⟩ := sl_allComes (c := i) (v.1 564 a g) hN (by omega) hDv.2.1.2.2.1
    refine ⟨v', ?_, q1.tr r2, fun c hc n hn => ?_, fun c n hc hn => ?_⟩
    · show nc_Run m_X7_talk 160 _ _ _ = nc_Run m_X7_talk 160 _ _ _
      rw [qr_X7_talk_160]
      simp (disch := omega) only [↓nc_lt_v, ↓nc_li_v, ↓nc_bI_v, ↓nc_bV_v, ↓nc_bL_v, ↓nc_ll_v, ↓bd8, ↓reduceIte, ↓nc_z_tI, ↓nc_z_0, ↓nc_z_1, nI_leI, nI_ltI, nI_1, tI_ne, tI_eq0, ne_eq, not_true_eq_false, not_false_eq_true, Decidable.not_not, e2, hgi, e238, ↓r1]
    · by_cases e : c = i
      · subst e
        rw [r4 n hn, q2 c hc n hn, hlv n hn]
        constructor
        · rintro (⟨p1, p2⟩ | ⟨p1, p2⟩)
          · exact ⟨p1, p2.elim Or.inl (fun q => absurd q.1 (Nat.lt_irrefl _))⟩
          · exact ⟨p1, Or.inr ⟨by omega, p2⟩⟩
        · rintro ⟨p1, p2 | p2⟩
          · exact Or.inl ⟨p1, Or.inl p2⟩
          · exact Or.inr ⟨p1, p2.2⟩
      · have : c < i + 1 ↔ c < i := by omega
        rw [r3 c e, q2 c hc n hn, this]
    · rw [r5, e7v]
      by_cases e : c = i
      · subst e
        have e1 : 10 * c + n - 10 * c = n := by omega
        rw [e1]
        by_cases b : lrn S C N h (S (5 + c)) n
        · rw [if_pos (And.intro (by omega) (And.intro (by omega) ((hlv n (by omega)).mpr b))), if_pos (And.intro (by omega) b)]
        · rw [if_neg (fun q => b ((hlv n (by omega)).mp q.2.2)), if_neg (fun q => b q.2), q3 c n hc hn, if_neg (fun q => b q.2)]
      · have : c < i + 1 ↔ c < i := by omega
        rw [if_neg (by omega), q3 c n hc hn]
        simp only [this]
  · rintro v ⟨q1, q2, q3⟩
    have e2 : v.1 2 (nc_ld a) 2 = nI C := by rw [q1.2 2 _ (fun q => by have := q.2; omega)]; exact hD.2.1.2.1
    refine ⟨v, ?_, q1, fun c hc n hn => ?_, fun c n hc hn => ?_⟩
    · show nc_Run m_X7_talk 160 _ _ _ = _
      rw [qr_X7_talk_160]
      simp (disch := omega) only [↓nc_lt_v, ↓nc_li_v, ↓nc_bI_v, ↓nc_bV_v, ↓nc_bL_v, ↓nc_ll_v, ↓bd8, ↓reduceIte, ↓nc_z_tI, ↓nc_z_0, ↓nc_z_1, nI_leI, nI_ltI, nI_1, tI_ne, tI_eq0, ne_eq, not_true_eq_false, not_false_eq_true, Decidable.not_not, e2, Nat.le_refl]
    · rw [q2 c hc n hn]
      simp only [hc, true_and]
    · rw [q3 c n hc hn]
      simp only [hc, true_and]
  · refine ⟨eqO.rf, fun c hc n hn => ?_, fun c n hc hn => ?_⟩
    · rw [hkn c hc, bq_kns hN hn]
      exact ⟨fun q => ⟨q.1, Or.inl q.2⟩, fun q => ⟨q.1, q.2.elim id (fun q => absurd q.1 (Nat.not_lt_zero _))⟩⟩
    · rw [if_neg (fun q => Nat.not_lt_zero _ q.1)]
theorem sl_talk (hD : DR w (nc_ld a) S f C N h) (hL : LK w a S C N) (hfa : frm S f C) (hh : hdg S f h) :
  ∃ w', nc_Call m_X7_talk [lO a] w = some (none, w') ∧ eqO (lT a) w w' ∧ (∀ c, c < C → ∀ n, n < 32 → (bq (w'.1 554 a c) (nI n) ↔ n < N ∧ (kn S c n ∨ lrn S C N h (S (5 + c)) n))) ∧ (∀ c n, c < C → n < N → w'.1 553 a (10 * c + n) = if lrn S C N h (S (5 + c)) n then S 76 else w.1 553 a (10 * c + n)) := by
  have hC : C ≤ 8 := hD.1.2.2.2.2.2.1
  have hN : N ≤ 10 := hD.1.2.2.2.2.2.2.1
  have h6 : h ≤ 6 := hD.1.2.2.2.2.2.2.2
  have m1 := sl_talking hD hL.1 (fun k hk => by
    obtain ⟨x, y, e, x1, x2, x3, x4, x5, x6, x7, x8⟩ := hh k hk
    exact ⟨e, x4, x5, x8⟩)
  rw [qc_X7_talk, m1, nc_bI_v]
  by_cases b : tkb S h = 0
  · rw [if_neg (fun q => q b)]
    have hno : ∀ x n, ¬ lrn S C N h x n := by
      rintro x n ⟨q, p1, p2⟩
      have := (bq_tkb (S := S) h6 (show q < 32 by omega)).mpr ⟨p1, p2.1⟩
      rw [b] at this
      exact bq_z (by omega) this
    refine ⟨w, rfl, eqO.rf, fun c hc n hn => ?_, fun c n hc hn => ?_⟩
    · rw [hL.2.2.2.1 c hc, bq_kns hN hn]
      exact ⟨fun q => ⟨q.1, Or.inl q.2⟩, fun q => ⟨q.1, q.2.elim id (fun q => absurd q (hno _ _))⟩⟩
    · rw [if_neg (hno _ _)]
  · rw [if_pos b, s_fill (t := 563) (n := 4) rfl rfl (by decide), nc_bV_v, s_fill (t := 564) (n := 4) rfl rfl (by decide), nc_bV_v]
    generalize hw1 : row (row w 563 a (fun k => if k < 4 then 0 else w.1 563 a k)) 564 a (fun k => if k < 4 then 0 else (row w 563 a (fun k => if k < 4 then 0 else w.1 563 a k)).1 564 a k) = w1
    have o1 : eqO (lT a) w w1 := by
      rw [← hw1]
      exact (eqO.rf.row ⟨rfl, Or.inr (Or.inr (Or.inl rfl))⟩).row ⟨rfl, Or.inr (Or.inr (Or.inr rfl))⟩
    have k3 : ∀ g, g < 4 → w1.1 563 a g = 0 := fun g hg => by rw [← hw1, row_t (by decide), row_s, if_pos hg]
    have k4 : ∀ g, g < 4 → w1.1 564 a g = 0 := fun g hg => by rw [← hw1, row_s, if_pos hg]
    have u1 : ∀ t, t ≠ 563 → t ≠ 564 → ∀ x, w1.1 t x = w.1 t x := fun t n1 n2 x => by rw [← hw1, row_t n2, row_t n1]
    have D1 : DR w1 (nc_ld a) S f C N h := DR_eq hD (fun t ht => u1 t (by omega) (by omega) _) (fun k _ => rfl)
    obtain ⟨w2, a1, a2, a3⟩ := tl_1 (tkb S h) D1 (fun c hc => by rw [u1 554 (by omega) (by omega)]; exact hL.2.2.2.1 c hc) hfa k3
    have u2 : ∀ t, t ≠ 563 → ∀ x, w2.1 t x = w1.1 t x := fun t n1 x => a2.2 t x (fun q => n1 q.2)
    have D2 : DR w2 (nc_ld a) S f C N h := DR_eq D1 (fun t ht => u2 t (by omega) _) (fun k _ => rfl)
    obtain ⟨w3, b1, b2, b3⟩ := tl_2 D2 hh a3 (fun g hg => by rw [u2 564 (by omega)]; exact k4 g hg)
    have u3 : ∀ t, t ≠ 564 → ∀ x, w3.1 t x = w2.1 t x := fun t n1 x => b2.2 t x (fun q => n1 q.2)
    have D3 : DR w3 (nc_ld a) S f C N h := DR_eq D2 (fun t ht => u3 t (by omega) _) (fun k _ => rfl)
    have v3 : ∀ t, t ≠ 563 → t ≠ 564 → ∀ x, w3.1 t x = w.1 t x := fun t n1 n2 x => by rw [u3 t n2, u2 t n1, u1 t n1 n2]
    obtain ⟨w4, c1, c2, c3, c4⟩ := tl_3 D3 hfa (fun c hc => by rw [v3 554 (by omega) (by omega)]; exact hL.2.2.2.1 c hc) (by rw [v3 7 (by omega) (by omega)]; exact hL.1.1.1) b3
    refine ⟨w4, a1.trans (b1.trans c1), ?_, c3, fun c n hc hn => ?_⟩
    · refine ⟨?_, fun t a' q => ?_⟩
      · rw [c2.1, b2.1, a2.1, o1.1]
      · rw [c2.2 t a' (fun z => q ⟨z.1, z.2.elim Or.inl (fun z => Or.inr (Or.inl z))⟩), b2.2 t a' (fun z => q ⟨z.1, Or.inr (Or.inr (Or.inr z.2))⟩), a2.2 t a' (fun z => q ⟨z.1, Or.inr (Or.inr (Or.inl z.2))⟩), o1.2 t a' q]
    · rw [c4 c n hc hn, v3 553 (by omega) (by omega)]
end TL
