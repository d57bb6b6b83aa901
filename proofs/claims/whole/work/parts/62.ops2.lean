/-! MORE CALLS THAT ONLY READ. -/
section OS
variable {w : nc_H}
theorem rd {A B : nc_H → Option nc_R} (hI : Inv w) (k : ∃ r, A w = some (some (.inl r), w) ∧ B w = some (some (.inl r), thr w 0)) : Op w A B := by
  obtain ⟨r, k1, k2⟩ := k
  exact ⟨r, w, _, k1, k2, Inv_thr hI⟩
theorem thr_874 {x : Int32} : (thr w x).1 874 = w.1 874 := thr_t (by decide)
theorem lit_rng {x : Int32} {n : Nat} (hn : n < 2 ^ 30) (h : rng x n) : ∃ k, k < n ∧ x = nI k := h
theorem nI_lit {k : Nat} (hk : k < 2 ^ 31) (n : Nat) (hn : n < 2 ^ 31) : nI k = (OfNat.ofNat n : Int32) ↔ k = n := by
  rw [show (OfNat.ofNat n : Int32) = nI n from rfl, nI_eq hk hn]
theorem rng_4 {x : Int32} (h : rng x 4) : x = 0 ∨ x = 1 ∨ x = 2 ∨ x = 3 := by
  obtain ⟨k, k1, rfl⟩ := h
  have e : k = 0 ∨ k = 1 ∨ k = 2 ∨ k = 3 := by omega
  rcases e with rfl | rfl | rfl | rfl
  · exact Or.inl rfl
  · exact Or.inr (Or.inl rfl)
  · exact Or.inr (Or.inr (Or.inl rfl))
  · exact Or.inr (Or.inr (Or.inr rfl))
theorem nrng {x : Int32} {n : Nat} (h : ¬ rng x n) (k : Nat) (hk : k < n) : ¬ x = nI k := fun e => h ⟨k, hk, e⟩
theorem lb0 {n : Nat} {k : Nat → Option nc_R} (h : 0 < n) (hn : n < 2 ^ 31) : nc_bd 0 n k = k 0 := nc_bd_of 0 rfl h hn
theorem lb1 {n : Nat} {k : Nat → Option nc_R} (h : 1 < n) (hn : n < 2 ^ 31) : nc_bd 1 n k = k 1 := nc_bd_of 1 rfl h hn
theorem lb2 {n : Nat} {k : Nat → Option nc_R} (h : 2 < n) (hn : n < 2 ^ 31) : nc_bd 2 n k = k 2 := nc_bd_of 2 rfl h hn
theorem lb3 {n : Nat} {k : Nat → Option nc_R} (h : 3 < n) (hn : n < 2 ^ 31) : nc_bd 3 n k = k 3 := nc_bd_of 3 rfl h hn
theorem lb4 {n : Nat} {k : Nat → Option nc_R} (h : 4 < n) (hn : n < 2 ^ 31) : nc_bd 4 n k = k 4 := nc_bd_of 4 rfl h hn
theorem op_written (hI : Inv w) (x : Int32) : Op w (nc_Call m_X11_written [cO, .inl x]) (nc_Call m_X12_written [mO, .inl x]) := by
  refine rd hI ?_
  rw [qc_X11_written, qc_X12_written, nc_lt_v, thr_si, thr_k (by decide), sm_isIn]
  rcases hI.2.2.2.2.2.2.1 with ⟨q1, q2⟩ | ⟨q1, q2, q3, q4, q5, q6⟩
  · simp +decide (disch := omega) only [↓nc_lt_v, ↓nc_li_v, ↓nc_bI_v, ↓nc_bV_v, ↓nc_bL_v, ↓nc_ll_v, ↓bd8, ↓reduceIte, ↓nc_z_tI, ↓nc_z_0, ↓nc_z_1, nI_leI, nI_ltI, nI_1, tI_ne, tI_eq0, ne_eq, not_true_eq_false, not_false_eq_true, Decidable.not_not, q1, q2]
    exact ⟨_, rfl, rfl⟩
  · by_cases b : rng x 4
    · rcases rng_4 b with rfl | rfl | rfl | rfl
      · simp +decide (disch := omega) only [↓nc_lt_v, ↓nc_li_v, ↓nc_bI_v, ↓nc_bV_v, ↓nc_bL_v, ↓nc_ll_v, ↓bd8, ↓reduceIte, ↓nc_z_tI, ↓nc_z_0, ↓nc_z_1, nI_leI, nI_ltI, nI_1, tI_ne, tI_eq0, ne_eq, not_true_eq_false, not_false_eq_true, Decidable.not_not, q1, q2, ↓lb0, thr_t, q3]
        exact ⟨_, rfl, rfl⟩
      · simp +decide (disch := omega) only [↓nc_lt_v, ↓nc_li_v, ↓nc_bI_v, ↓nc_bV_v, ↓nc_bL_v, ↓nc_ll_v, ↓bd8, ↓reduceIte, ↓nc_z_tI, ↓nc_z_0, ↓nc_z_1, nI_leI, nI_ltI, nI_1, tI_ne, tI_eq0, ne_eq, not_true_eq_false, not_false_eq_true, Decidable.not_not, q1, q2, ↓lb1, thr_t, q4]
        exact ⟨_, rfl, rfl⟩
      · simp +decide (disch := omega) only [↓nc_lt_v, ↓nc_li_v, ↓nc_bI_v, ↓nc_bV_v, ↓nc_bL_v, ↓nc_ll_v, ↓bd8, ↓reduceIte, ↓nc_z_tI, ↓nc_z_0, ↓nc_z_1, nI_leI, nI_ltI, nI_1, tI_ne, tI_eq0, ne_eq, not_true_eq_false, not_false_eq_true, Decidable.not_not, q1, q2, ↓lb2, thr_t, q5]
        exact ⟨_, rfl, rfl⟩
      · simp +decide (disch := omega) only [↓nc_lt_v, ↓nc_li_v, ↓nc_bI_v, ↓nc_bV_v, ↓nc_bL_v, ↓nc_ll_v, ↓bd8, ↓reduceIte, ↓nc_z_tI, ↓nc_z_0, ↓nc_z_1, nI_leI, nI_ltI, nI_1, tI_ne, tI_eq0, ne_eq, not_true_eq_false, not_false_eq_true, Decidable.not_not, q1, q2, ↓lb3, thr_t, q6]
        exact ⟨_, rfl, rfl⟩
    · have n0 : ¬ x = 0 := nrng b 0 (by omega)
      have n1 : ¬ x = 1 := nrng b 1 (by omega)
      have n2 : ¬ x = 2 := nrng b 2 (by omega)
      have n3 : ¬ x = 3 := nrng b 3 (by omega)
      have nn : ¬ ((0 : Int32) ≤ x ∧ x ≤ 3) := fun q => b ((rng_M (n := 4) (by decide)).mp q)
      simp +decide (disch := omega) only [↓nc_lt_v, ↓nc_li_v, ↓nc_bI_v, ↓nc_bV_v, ↓nc_bL_v, ↓nc_ll_v, ↓bd8, ↓reduceIte, ↓nc_z_tI, ↓nc_z_0, ↓nc_z_1, nI_leI, nI_ltI, nI_1, tI_ne, tI_eq0, ne_eq, not_true_eq_false, not_false_eq_true, Decidable.not_not, q1, q2, n0, n1, n2, n3, eq_false nn]
      exact ⟨_, rfl, rfl⟩
theorem op_count (hI : Inv w) (x : Int32) : Op w (nc_Call m_X11_count [cO, .inl x]) (nc_Call m_X12_count [mO, .inl x]) := by
  refine rd hI ?_
  obtain ⟨⟨f, C, N, h, d, ⟨⟨x1, x2, x3, x4, x5, x6⟩, x7⟩⟩, -, -, -, -, ⟨⟨l, l1, l2, l3⟩, -⟩, -⟩ := hI
  rw [qc_X11_count, qc_X12_count, nc_lt_v, thr_si, thr_k (by decide), sm_isIn]
  by_cases b5 : x = 5
  · subst b5
    simp +decide (disch := omega) only [↓nc_lt_v, ↓nc_li_v, ↓nc_bI_v, ↓nc_bV_v, ↓nc_bL_v, ↓nc_ll_v, ↓bd8, ↓reduceIte, ↓nc_z_tI, ↓nc_z_0, ↓nc_z_1, nI_leI, nI_ltI, nI_1, tI_ne, tI_eq0, ne_eq, not_true_eq_false, not_false_eq_true, Decidable.not_not, l2, l3]
    exact ⟨_, rfl, rfl⟩
  · by_cases b4 : x = 4
    · subst b4
      simp +decide (disch := omega) only [↓nc_lt_v, ↓nc_li_v, ↓nc_bI_v, ↓nc_bV_v, ↓nc_bL_v, ↓nc_ll_v, ↓bd8, ↓reduceIte, ↓nc_z_tI, ↓nc_z_0, ↓nc_z_1, nI_leI, nI_ltI, nI_1, tI_ne, tI_eq0, ne_eq, not_true_eq_false, not_false_eq_true, Decidable.not_not, ↓lb4, thr_874, x3.2.1.2.2.2.2.1]
      exact ⟨_, rfl, rfl⟩
    · by_cases b : rng x 4
      · rcases rng_4 b with rfl | rfl | rfl | rfl
        · simp +decide (disch := omega) only [↓nc_lt_v, ↓nc_li_v, ↓nc_bI_v, ↓nc_bV_v, ↓nc_bL_v, ↓nc_ll_v, ↓bd8, ↓reduceIte, ↓nc_z_tI, ↓nc_z_0, ↓nc_z_1, nI_leI, nI_ltI, nI_1, tI_ne, tI_eq0, ne_eq, not_true_eq_false, not_false_eq_true, Decidable.not_not, ↓lb0, thr_874, x3.2.1.1, x3.1.1]
          exact ⟨_, rfl, rfl⟩
        · simp +decide (disch := omega) only [↓nc_lt_v, ↓nc_li_v, ↓nc_bI_v, ↓nc_bV_v, ↓nc_bL_v, ↓nc_ll_v, ↓bd8, ↓reduceIte, ↓nc_z_tI, ↓nc_z_0, ↓nc_z_1, nI_leI, nI_ltI, nI_1, tI_ne, tI_eq0, ne_eq, not_true_eq_false, not_false_eq_true, Decidable.not_not, ↓lb1, thr_874, x3.2.1.2.1, x3.1.2.1]
          exact ⟨_, rfl, rfl⟩
        · simp +decide (disch := omega) only [↓nc_lt_v, ↓nc_li_v, ↓nc_bI_v, ↓nc_bV_v, ↓nc_bL_v, ↓nc_ll_v, ↓bd8, ↓reduceIte, ↓nc_z_tI, ↓nc_z_0, ↓nc_z_1, nI_leI, nI_ltI, nI_1, tI_ne, tI_eq0, ne_eq, not_true_eq_false, not_false_eq_true, Decidable.not_not, ↓lb2, thr_874, x3.2.1.2.2.1, x3.1.2.2.1]
          exact ⟨_, rfl, rfl⟩
        · simp +decide (disch := omega) only [↓nc_lt_v, ↓nc_li_v, ↓nc_bI_v, ↓nc_bV_v, ↓nc_bL_v, ↓nc_ll_v, ↓bd8, ↓reduceIte, ↓nc_z_tI, ↓nc_z_0, ↓nc_z_1, nI_leI, nI_ltI, nI_1, tI_ne, tI_eq0, ne_eq, not_true_eq_false, not_false_eq_true, Decidable.not_not, ↓lb3, thr_874, x3.2.1.2.2.2.1, x3.1.2.2.2.1]
          exact ⟨_, rfl, rfl⟩
      · have n0 : ¬ x = 0 := nrng b 0 (by omega)
        have n1 : ¬ x = 1 := nrng b 1 (by omega)
        have n2 : ¬ x = 2 := nrng b 2 (by omega)
        have n3 : ¬ x = 3 := nrng b 3 (by omega)
        have nn : ¬ ((0 : Int32) ≤ x ∧ x ≤ 4) := fun q => by
          obtain ⟨k, k1, rfl⟩ := (rng_M (n := 5) (by decide)).mp q
          by_cases e : k = 4
          · subst e
            exact b4 rfl
          · exact b ⟨k, by omega, rfl⟩
        simp +decide (disch := omega) only [↓nc_lt_v, ↓nc_li_v, ↓nc_bI_v, ↓nc_bV_v, ↓nc_bL_v, ↓nc_ll_v, ↓bd8, ↓reduceIte, ↓nc_z_tI, ↓nc_z_0, ↓nc_z_1, nI_leI, nI_ltI, nI_1, tI_ne, tI_eq0, ne_eq, not_true_eq_false, not_false_eq_true, Decidable.not_not, b5, b4, n0, n1, n2, n3, eq_false nn]
        exact ⟨_, rfl, rfl⟩
theorem op_dries (hI : Inv w) (x : Int32) : Op w (nc_Call m_X11_dries [cO, .inl x]) (nc_Call m_X12_dries [mO, .inl x]) := by
  refine rd hI ?_
  obtain ⟨⟨f, C, N, h, d, ⟨⟨x1, x2, x3, x4, x5, x6⟩, x7⟩⟩, -⟩ := hI
  have hN : N ≤ 10 := x3.1.2.2.2.2.2.2.1
  have e3 : w.1 2 0 3 = nI N := x3.2.1.2.2.1
  have m3 : (thr w 0).1 874 0 2 = nI N := by rw [thr_874]; exact x3.1.2.2.1
  rw [qc_X11_dries, qc_X12_dries, nc_lt_v, thr_si]
  by_cases b : rng x N
  · rw [sc_isNews_t e3 (by omega) b, nc_bI_v, if_neg (by decide), mm_isNews_t m3 (by omega) b, nc_bI_v, if_neg (by decide), sl_whyNotFound (a := 0) _ w x3 x5.1.1, nc_bI_v, sm_whyFind, nc_bI_v, thr_874]
    obtain ⟨k, k1, rfl⟩ := b
    by_cases b2 : wyF (w.1 874 0) (nI k) = 0
    · have := sm_driedBy (n := k) (thr w 0) (f := f) (C := C) (N := N) (h := h) (by rw [thr_874]; exact x3.1) (by omega)
      rw [if_neg (fun q => q b2), if_neg (fun q => q b2), sl_wouldDry (a := 0) x3 x5.1 k1, nc_bI_v, this, nc_bI_v, thr_874]
      exact ⟨_, rfl, rfl⟩
    · rw [if_pos b2, if_pos b2]
      exact ⟨_, rfl, rfl⟩
  · rw [sc_isNews_f e3 (by omega) b, nc_bI_v, if_pos rfl, mm_isNews_f m3 (by omega) b, nc_bI_v, if_pos rfl]
    exact ⟨_, rfl, rfl⟩
theorem op_why (hI : Inv w) (x y : Int32) : Op w (nc_Call m_X11_why [cO, .inl x, .inl y]) (nc_Call m_X12_why [mO, .inl x, .inl y]) := by
  refine rd hI ?_
  obtain ⟨⟨f, C, N, h, d, ⟨⟨x1, x2, x3, x4, x5, x6⟩, x7⟩⟩, -⟩ := hI
  have hC : C ≤ 8 := x3.1.2.2.2.2.2.1
  have hN : N ≤ 10 := x3.1.2.2.2.2.2.2.1
  have e3 : w.1 2 0 3 = nI N := x3.2.1.2.2.1
  have m3 : (thr w 0).1 874 0 2 = nI N := by rw [thr_874]; exact x3.1.2.2.1
  have e2 : w.1 2 0 2 = nI C := x3.2.1.2.1
  have m2 : (thr w 0).1 874 0 1 = nI C := by rw [thr_874]; exact x3.1.2.1
  rw [qc_X11_why, qc_X12_why, nc_lt_v, thr_si]
  by_cases b : rng x C
  · rw [sc_isCow_t e2 (by omega) b, nc_bI_v, if_neg (by decide), mm_isCow_t m2 (by omega) b, nc_bI_v, if_neg (by decide)]
    by_cases b2 : rng y N
    · rw [sc_isNews_t e3 (by omega) b2, nc_bI_v, if_neg (by decide), mm_isNews_t m3 (by omega) b2, nc_bI_v, if_neg (by decide)]
      obtain ⟨c, c1, rfl⟩ := b
      obtain ⟨n, n1, rfl⟩ := b2
      obtain ⟨k, k1, k2⟩ := x2.2.2.2 c c1
      have p := pow_N hN
      rw [sl_whyNotTold (a := 0) w x3 x5.1.1 (by omega) (by omega) k2, nc_bI_v, sm_whyTell (thr w 0) (by omega) (show k < 1024 by omega) (by rw [thr_874]; exact k2), nc_bI_v, thr_874]
      exact ⟨_, rfl, rfl⟩
    · rw [sc_isNews_f e3 (by omega) b2, nc_bI_v, if_pos rfl, mm_isNews_f m3 (by omega) b2, nc_bI_v, if_pos rfl]
      exact ⟨_, rfl, rfl⟩
  · rw [sc_isCow_f e2 (by omega) b, nc_bI_v, if_pos rfl, mm_isCow_f m2 (by omega) b, nc_bI_v, if_pos rfl]
    exact ⟨_, rfl, rfl⟩
end OS
