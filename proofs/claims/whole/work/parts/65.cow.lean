/-! cow, farm: where they don't throw, and what the model does where they do. -/
section CF
variable {w : nc_H} {f C N h d : Nat}
theorem sm_throws0 : nc_Call m_X12_throwsIf [mO, .inl 0] w = some (some (.inl 0), thr w 0) := by
  rw [qc_X12_throwsIf, if_pos rfl, nc_lt_v, nc_z_0, thr_si]
theorem sm_throws1 : nc_Call m_X12_throwsIf [mO, .inl 1] w = some (some (.inl 1), thr w 1) := by
  rw [qc_X12_throwsIf, if_neg (by decide), nc_lt_v, nc_z_1, thr_si]
theorem sm_thrown : nc_Call m_X12_thrown [mO] w = some (some (.inl (w.1 12 0 0)), w) := qc_X12_thrown 0 w
theorem rng_8 {x : Int32} (h : rng x 8) : x = 0 ∨ x = 1 ∨ x = 2 ∨ x = 3 ∨ x = 4 ∨ x = 5 ∨ x = 6 ∨ x = 7 := by
  obtain ⟨k, k1, rfl⟩ := h
  have e : k = 0 ∨ k = 1 ∨ k = 2 ∨ k = 3 ∨ k = 4 ∨ k = 5 ∨ k = 6 ∨ k = 7 := by omega
  rcases e with rfl | rfl | rfl | rfl | rfl | rfl | rfl | rfl
  · exact Or.inl rfl
  · exact Or.inr (Or.inl rfl)
  · exact Or.inr (Or.inr (Or.inl rfl))
  · exact Or.inr (Or.inr (Or.inr (Or.inl rfl)))
  · exact Or.inr (Or.inr (Or.inr (Or.inr (Or.inl rfl))))
  · exact Or.inr (Or.inr (Or.inr (Or.inr (Or.inr (Or.inl rfl)))))
  · exact Or.inr (Or.inr (Or.inr (Or.inr (Or.inr (Or.inr (Or.inl rfl))))))
  · exact Or.inr (Or.inr (Or.inr (Or.inr (Or.inr (Or.inr (Or.inr rfl))))))
theorem dOK_of {S : Nat → Int32} (hl : lok S C N d) : dOK S := ⟨d, hl.2.1, hl.1⟩
theorem op_cow_t (hW : NW w f C N h d) {x y : Int32} (hx : rng x C) (hy : rng y 8) : ∃ r, nc_Call m_X11_cow [cO, .inl x, .inl y] w = some (some (.inl r), w) ∧ nc_Call m_X12_cow [mO, .inl x, .inl y] w = some (some (.inl r), thr w 0) := by
  obtain ⟨⟨x1, x2, x3, x4, x5, x6⟩, x7⟩ := hW
  have hC : C ≤ 8 := x3.1.2.2.2.2.2.1
  have hN : N ≤ 10 := x3.1.2.2.2.2.2.2.1
  have e2 : w.1 2 0 2 = nI C := x3.2.1.2.1
  have hs : shp ((thr w 0).1 874 0) f C N h := by rw [thr_874]; exact x3.1
  rw [qc_X11_cow, qc_X12_cow, sc_isCow_t e2 (by omega) hx, mm_isCow_t x3.1.2.1 (by omega) hx]
  obtain ⟨c, c1, rfl⟩ := hx
  have c8 : c < 8 := by omega
  have k1 := (x3.2.2.1 c c1).1
  have k5 := x5.1.2.2.2.1 c c1
  have k4 := (x5.1.1.2 c c8).1
  have k3 := x5.1.2.2.1 c c8
  have k7 := x5.2.1 c c8
  have k0 := x5.1.1.1.2.1
  have t1 := sm_isCurdled (c := c) (thr w 0) c8
  have t2 := sm_known (c := c) (thr w 0) hs c8
  have t3 := sm_milk (c := c) (thr w 0) hs c8
  have t4 := sl_isCurdled (c := c) w x5.1.1 (dOK_of x2) c8
  have t5 := sl_milk (c := c) (w := w) (a := 0) x3 x5.1.1 x1.2.1 (dOK_of x2) c1
  rw [thr_874] at t1 t2 t3
  rcases rng_8 hy with rfl | rfl | rfl | rfl | rfl | rfl | rfl | rfl
  · simp +decide (disch := omega) only [↓nc_lt_v, ↓nc_li_v, ↓nc_bI_v, ↓nc_bV_v, ↓nc_bL_v, ↓nc_ll_v, ↓bd8, ↓reduceIte, ↓nc_z_tI, ↓nc_z_0, ↓nc_z_1, nI_leI, nI_ltI, nI_1, tI_ne, tI_eq0, ne_eq, not_true_eq_false, not_false_eq_true, Decidable.not_not, ↓pl_5, ↓pl_13, ↓pl_21, ↓pl_29, ↓pl_37, ↓pl_47, ↓pl_58, ↓pl_64, ↓pl_70, ↓pl_79, ↓pl_87, ↓pl_95, ↓pl_100, ↓pl_108, ↓pl_116, ↓pl_124, ↓sm_isIn, ↓sm_throws0, thr_874, k1]
    exact ⟨_, rfl, rfl⟩
  · by_cases b : bq (w.1 874 0 77) (nI c)
    · simp +decide (disch := omega) only [↓nc_lt_v, ↓nc_li_v, ↓nc_bI_v, ↓nc_bV_v, ↓nc_bL_v, ↓nc_ll_v, ↓bd8, ↓reduceIte, ↓nc_z_tI, ↓nc_z_0, ↓nc_z_1, nI_leI, nI_ltI, nI_1, tI_ne, tI_eq0, ne_eq, not_true_eq_false, not_false_eq_true, Decidable.not_not, ↓sm_isIn, ↓sm_throws0, ↓sl_isDry, ↓sm_isDry, thr_874, k0, eq_true b]
      exact ⟨_, rfl, rfl⟩
    · simp +decide (disch := omega) only [↓nc_lt_v, ↓nc_li_v, ↓nc_bI_v, ↓nc_bV_v, ↓nc_bL_v, ↓nc_ll_v, ↓bd8, ↓reduceIte, ↓nc_z_tI, ↓nc_z_0, ↓nc_z_1, nI_leI, nI_ltI, nI_1, tI_ne, tI_eq0, ne_eq, not_true_eq_false, not_false_eq_true, Decidable.not_not, ↓sm_isIn, ↓sm_throws0, ↓sl_isDry, ↓sm_isDry, thr_874, k0, eq_false b]
      exact ⟨_, rfl, rfl⟩
  · by_cases b : cu (w.1 874 0) c
    · simp +decide (disch := omega) only [↓nc_lt_v, ↓nc_li_v, ↓nc_bI_v, ↓nc_bV_v, ↓nc_bL_v, ↓nc_ll_v, ↓bd8, ↓reduceIte, ↓nc_z_tI, ↓nc_z_0, ↓nc_z_1, nI_leI, nI_ltI, nI_1, tI_ne, tI_eq0, ne_eq, not_true_eq_false, not_false_eq_true, Decidable.not_not, ↓sm_isIn, ↓sm_throws0, ↓t1, ↓t4, eq_true b]
      exact ⟨_, rfl, rfl⟩
    · simp +decide (disch := omega) only [↓nc_lt_v, ↓nc_li_v, ↓nc_bI_v, ↓nc_bV_v, ↓nc_bL_v, ↓nc_ll_v, ↓bd8, ↓reduceIte, ↓nc_z_tI, ↓nc_z_0, ↓nc_z_1, nI_leI, nI_ltI, nI_1, tI_ne, tI_eq0, ne_eq, not_true_eq_false, not_false_eq_true, Decidable.not_not, ↓sm_isIn, ↓sm_throws0, ↓t1, ↓t4, eq_false b]
      exact ⟨_, rfl, rfl⟩
  · simp +decide (disch := omega) only [↓nc_lt_v, ↓nc_li_v, ↓nc_bI_v, ↓nc_bV_v, ↓nc_bL_v, ↓nc_ll_v, ↓bd8, ↓reduceIte, ↓nc_z_tI, ↓nc_z_0, ↓nc_z_1, nI_leI, nI_ltI, nI_1, tI_ne, tI_eq0, ne_eq, not_true_eq_false, not_false_eq_true, Decidable.not_not, ↓pl_5, ↓pl_13, ↓pl_21, ↓pl_29, ↓pl_37, ↓pl_47, ↓pl_58, ↓pl_64, ↓pl_70, ↓pl_79, ↓pl_87, ↓pl_95, ↓pl_100, ↓pl_108, ↓pl_116, ↓pl_124, ↓sm_isIn, ↓sm_throws0, thr_874, k3]
    exact ⟨_, rfl, rfl⟩
  · simp +decide (disch := omega) only [↓nc_lt_v, ↓nc_li_v, ↓nc_bI_v, ↓nc_bV_v, ↓nc_bL_v, ↓nc_ll_v, ↓bd8, ↓reduceIte, ↓nc_z_tI, ↓nc_z_0, ↓nc_z_1, nI_leI, nI_ltI, nI_1, tI_ne, tI_eq0, ne_eq, not_true_eq_false, not_false_eq_true, Decidable.not_not, ↓pl_5, ↓pl_13, ↓pl_21, ↓pl_29, ↓pl_37, ↓pl_47, ↓pl_58, ↓pl_64, ↓pl_70, ↓pl_79, ↓pl_87, ↓pl_95, ↓pl_100, ↓pl_108, ↓pl_116, ↓pl_124, ↓sm_isIn, ↓sm_throws0, thr_874, k4]
    exact ⟨_, rfl, rfl⟩
  · simp +decide (disch := omega) only [↓nc_lt_v, ↓nc_li_v, ↓nc_bI_v, ↓nc_bV_v, ↓nc_bL_v, ↓nc_ll_v, ↓bd8, ↓reduceIte, ↓nc_z_tI, ↓nc_z_0, ↓nc_z_1, nI_leI, nI_ltI, nI_1, tI_ne, tI_eq0, ne_eq, not_true_eq_false, not_false_eq_true, Decidable.not_not, ↓sm_isIn, ↓sm_throws0, k5, ↓t2]
    exact ⟨_, rfl, rfl⟩
  · simp +decide (disch := omega) only [↓nc_lt_v, ↓nc_li_v, ↓nc_bI_v, ↓nc_bV_v, ↓nc_bL_v, ↓nc_ll_v, ↓bd8, ↓reduceIte, ↓nc_z_tI, ↓nc_z_0, ↓nc_z_1, nI_leI, nI_ltI, nI_1, tI_ne, tI_eq0, ne_eq, not_true_eq_false, not_false_eq_true, Decidable.not_not, ↓sm_isIn, ↓sm_throws0, ↓t3, ↓t5]
    exact ⟨_, rfl, rfl⟩
  · simp +decide (disch := omega) only [↓nc_lt_v, ↓nc_li_v, ↓nc_bI_v, ↓nc_bV_v, ↓nc_bL_v, ↓nc_ll_v, ↓bd8, ↓reduceIte, ↓nc_z_tI, ↓nc_z_0, ↓nc_z_1, nI_leI, nI_ltI, nI_1, tI_ne, tI_eq0, ne_eq, not_true_eq_false, not_false_eq_true, Decidable.not_not, ↓pl_5, ↓pl_13, ↓pl_21, ↓pl_29, ↓pl_37, ↓pl_47, ↓pl_58, ↓pl_64, ↓pl_70, ↓pl_79, ↓pl_87, ↓pl_95, ↓pl_100, ↓pl_108, ↓pl_116, ↓pl_124, ↓sm_isIn, ↓sm_throws0, thr_874, k7]
    exact ⟨_, rfl, rfl⟩
theorem op_cow_f (hW : NW w f C N h d) {x y : Int32} (hv : ¬ (rng x C ∧ rng y 8)) : nc_Call m_X12_cow [mO, .inl x, .inl y] w = some (some (.inl 0), thr w 1) := by
  obtain ⟨⟨x1, x2, x3, x4, x5, x6⟩, x7⟩ := hW
  have hC : C ≤ 8 := x3.1.2.2.2.2.2.1
  rw [qc_X12_cow]
  by_cases hx : rng x C
  · have hy : ¬ (0 ≤ y ∧ y ≤ 7) := fun q => hv ⟨hx, (rng_M (n := 8) (by decide)).mp ⟨q.1, Int32.le_trans q.2 (by decide)⟩⟩
    rw [mm_isCow_t x3.1.2.1 (by omega) hx, nc_bI_v, if_neg (by decide), sm_isIn, nc_bI_v, tI_f hy, if_neg (fun q => q rfl), sm_throws1, nc_bI_v, if_neg (by decide)]
  · rw [mm_isCow_f x3.1.2.1 (by omega) hx, nc_bI_v, if_pos rfl, sm_throws1, nc_bI_v, if_neg (by decide)]
/-- the hedges of a farm -/
def hdf (S : Nat → Int32) (h : Nat) (g : Int32) : Int32 := it (fun k (x : Int32) => x ||| (if S (58 + k) = g ∨ S (64 + k) = g then bs k else 0)) 0 h 0
theorem sd_hedgesOf {dn : Nat} {S : Nat → Int32} (hD : DR w dn S f C N h) (g : Int32) : nc_Call m_X2_hedgesOf [.inr (.inr (2, dn)), .inl g] w = some (some (.inl (hdf S h g)), w) := by
  have hh : h ≤ 6 := hD.1.2.2.2.2.2.2.2
  have e4 : w.1 2 dn 4 = nI h := hD.2.1.2.2.2.1
  rw [qc_X2_hedgesOf]
  have key := it_loop (R := fun i (x : Int32) => nc_Run m_X2_hedgesOf 4 [some (.inr (.inr (2, dn))), some (.inl g), some (.inl x), some (.inl (nI i))] [] w) (st := fun k (x : Int32) => x ||| (if S (58 + k) = g ∨ S (64 + k) = g then bs k else 0)) (I := fun _ _ => True) (n := h) (out := fun x => some (some (.inl x), w)) ?_ ?_ h 0 0 (by omega) trivial
  · exact key
  · intro i x hi _
    refine ⟨?_, trivial⟩
    have q := hD.2.2.2.2 i hi
    show nc_Run m_X2_hedgesOf 4 _ _ w = nc_Run m_X2_hedgesOf 4 _ _ w
    rw [qr_X2_hedgesOf_4, e4, if_neg (nI_ge hi (by omega)), bd8 i 6 (by omega) (by decide), q.1]
    by_cases b : S (58 + i) = g
    · rw [if_pos b, nc_li_v, nc_li_v, nI_1, if_pos (Or.inl b)]
      rfl
    · rw [if_neg b, bd8 i 6 (by omega) (by decide), q.2.1]
      by_cases b2 : S (64 + i) = g
      · rw [if_neg (fun z => z b2), nc_li_v, nc_li_v, nI_1, if_pos (Or.inr b2)]
        rfl
      · rw [if_pos b2, nc_li_v, nI_1, if_neg (fun z => z.elim b b2), or_0]
  · intro x _
    show nc_Run m_X2_hedgesOf 4 _ _ w = _
    rw [qr_X2_hedgesOf_4, e4, if_pos (nI_le (Nat.le_refl _) (by omega))]
theorem sc_milkOfFarm {S : Nat → Int32} (hD : DR w 0 S f C N h) (hL : LT w 0 S) (hk : kOK S N) (hd : dOK S) (g : Int32) : nc_Call m_X11_milkOfFarm [cO, .inl g] w = some (some (.inl (mof S C N g)), w) := by
  have hC : C ≤ 8 := hD.1.2.2.2.2.2.1
  have e2 : w.1 2 0 2 = nI C := hD.2.1.2.1
  rw [qc_X11_milkOfFarm]
  have key := it_loop (R := fun i (x : Int32) => nc_Run m_X11_milkOfFarm 4 [some cO, some (.inl g), some (.inl x), some (.inl (nI i))] [] w) (st := fun i (x : Int32) => x + (if S (5 + i) = g then mwi S C N i 0 else 0)) (I := fun _ _ => True) (n := C) (out := fun x => some (some (.inl x), w)) ?_ ?_ C 0 0 (by omega) trivial
  · exact key
  · intro i x hi _
    refine ⟨?_, trivial⟩
    show nc_Run m_X11_milkOfFarm 4 _ _ w = nc_Run m_X11_milkOfFarm 4 _ _ w
    rw [qr_X11_milkOfFarm_4, e2, if_neg (nI_ge hi (by omega)), bd8 i 8 (by omega) (by decide), (hD.2.2.1 i hi).1]
    by_cases b : S (5 + i) = g
    · rw [if_neg (fun z => z b), sl_milk (a := 0) hD hL hk hd hi, nc_bI_v, nc_li_v, nc_li_v, nI_1, if_pos b]
    · rw [if_pos b, nc_li_v, nI_1, if_neg b, Int32.add_zero]
  · intro x _
    show nc_Run m_X11_milkOfFarm 4 _ _ w = _
    rw [qr_X11_milkOfFarm_4, e2, if_pos (nI_le (Nat.le_refl _) (by omega))]
theorem op_farm_t (hW : NW w f C N h d) {x y : Int32} (hx : rng x f) (hy : rng y 4) : ∃ r, nc_Call m_X11_farm [cO, .inl x, .inl y] w = some (some (.inl r), w) ∧ nc_Call m_X12_farm [mO, .inl x, .inl y] w = some (some (.inl r), thr w 0) := by
  obtain ⟨⟨x1, x2, x3, x4, x5, x6⟩, x7⟩ := hW
  have hf : f ≤ 4 := x3.1.2.2.2.2.1
  have hC : C ≤ 8 := x3.1.2.2.2.2.2.1
  have hh : h ≤ 6 := x3.1.2.2.2.2.2.2.2
  have e1 : w.1 2 0 1 = nI f := x3.2.1.1
  have hs : shp ((thr w 0).1 874 0) f C N h := by rw [thr_874]; exact x3.1
  have e3 : (thr w 0).1 874 0 3 = nI h := hs.2.2.2.1
  have hy2 : 0 ≤ y ∧ y ≤ 3 := by
    rcases rng_4 hy with rfl | rfl | rfl | rfl <;> decide
  rw [qc_X11_farm, qc_X12_farm, sc_isFarm_t e1 (by omega) hx, mm_isFarm_t x3.1.1 (by omega) hx, nc_bI_v, nc_bI_v, if_neg (by decide), if_neg (Int32.not_lt.mpr hy2.1), if_pos hy2.2, if_neg (show ¬ (1 : Int32) = 0 by decide), sm_isIn, nc_bI_v, tI_t hy2, if_pos (show (1 : Int32) ≠ 0 by decide), sm_throws0, nc_bI_v, if_pos (show (0 : Int32) = 0 from rfl)]
  obtain ⟨g, g1, rfl⟩ := hx
  have g4 : g < 4 := by omega
  have key := it_loop (R := fun i (z : Int32) => nc_Run m_X12_farm 36 [some mO, some (.inl (nI g)), some (.inl y), some (.inl z), some (.inl (nI i))] [] (thr w 0)) (st := fun k (z : Int32) => z ||| (if w.1 874 0 (58 + k) = nI g ∨ w.1 874 0 (64 + k) = nI g then bs k else 0)) (I := fun _ _ => True) (n := h) (out := fun z => nc_Run m_X12_farm 36 [some mO, some (.inl (nI g)), some (.inl y), some (.inl z), some (.inl (nI h))] [] (thr w 0)) ?_ (fun _ _ => rfl) h 0 0 (by omega) trivial
  · have key2 : nc_Run m_X12_farm 36 [some mO, some (.inl (nI g)), some (.inl y), some (.inl 0), some (.inl 0)] [] (thr w 0) = nc_Run m_X12_farm 36 [some mO, some (.inl (nI g)), some (.inl y), some (.inl (hdf (w.1 874 0) h (nI g))), some (.inl (nI h))] [] (thr w 0) := key
    rw [key2, qr_X12_farm_36, e3, if_pos (nI_le (Nat.le_refl _) (by omega))]
    have k0 := x4.1 g g4
    have k1 := x5.2.2.1 g g4
    have t0 := sm_cowsOf (thr w 0) hs (nI g)
    have t2 := sm_milkOf (thr w 0) hs (nI g)
    rw [thr_874] at t0 t2
    have t5 := sc_milkOfFarm (w := w) x3 x5.1.1 x1.2.1 (dOK_of x2) (nI g)
    have t6 := sd_hedgesOf (w := w) x3 (nI g)
    rcases rng_4 hy with rfl | rfl | rfl | rfl
    · simp +decide (disch := omega) only [↓nc_lt_v, ↓nc_li_v, ↓nc_bI_v, ↓nc_bV_v, ↓nc_bL_v, ↓nc_ll_v, ↓bd8, ↓reduceIte, ↓nc_z_tI, ↓nc_z_0, ↓nc_z_1, nI_leI, nI_ltI, nI_1, tI_ne, tI_eq0, ne_eq, not_true_eq_false, not_false_eq_true, Decidable.not_not, ↓t0, k0]
      exact ⟨_, rfl, rfl⟩
    · simp +decide (disch := omega) only [↓nc_lt_v, ↓nc_li_v, ↓nc_bI_v, ↓nc_bV_v, ↓nc_bL_v, ↓nc_ll_v, ↓bd8, ↓reduceIte, ↓nc_z_tI, ↓nc_z_0, ↓nc_z_1, nI_leI, nI_ltI, nI_1, tI_ne, tI_eq0, ne_eq, not_true_eq_false, not_false_eq_true, Decidable.not_not, ↓pl_5, ↓pl_13, ↓pl_21, ↓pl_29, ↓pl_37, ↓pl_47, ↓pl_58, ↓pl_64, ↓pl_70, ↓pl_79, ↓pl_87, ↓pl_95, ↓pl_100, ↓pl_108, ↓pl_116, ↓pl_124, k1, thr_874]
      exact ⟨_, rfl, rfl⟩
    · simp +decide (disch := omega) only [↓nc_lt_v, ↓nc_li_v, ↓nc_bI_v, ↓nc_bV_v, ↓nc_bL_v, ↓nc_ll_v, ↓bd8, ↓reduceIte, ↓nc_z_tI, ↓nc_z_0, ↓nc_z_1, nI_leI, nI_ltI, nI_1, tI_ne, tI_eq0, ne_eq, not_true_eq_false, not_false_eq_true, Decidable.not_not, ↓t2, ↓t5]
      exact ⟨_, rfl, rfl⟩
    · simp +decide (disch := omega) only [↓nc_lt_v, ↓nc_li_v, ↓nc_bI_v, ↓nc_bV_v, ↓nc_bL_v, ↓nc_ll_v, ↓bd8, ↓reduceIte, ↓nc_z_tI, ↓nc_z_0, ↓nc_z_1, nI_leI, nI_ltI, nI_1, tI_ne, tI_eq0, ne_eq, not_true_eq_false, not_false_eq_true, Decidable.not_not, ↓t6]
      exact ⟨_, rfl, rfl⟩
  · intro i z hi _
    refine ⟨?_, trivial⟩
    show nc_Run m_X12_farm 36 _ _ _ = nc_Run m_X12_farm 36 _ _ _
    rw [qr_X12_farm_36, e3, if_neg (nI_ge hi (by omega)), pl_58 (by omega), thr_874]
    by_cases b : w.1 874 0 (58 + i) = nI g
    · rw [if_pos b, nc_li_v, nc_li_v, nI_1, if_pos (Or.inl b)]
      rfl
    · rw [if_neg b, pl_64 (by omega)]
      by_cases b2 : w.1 874 0 (64 + i) = nI g
      · rw [if_neg (fun z => z b2), nc_li_v, nc_li_v, nI_1, if_pos (Or.inr b2)]
        rfl
      · rw [if_pos b2, nc_li_v, nc_li_v, nI_1, if_neg (fun z => z.elim b b2)]
theorem op_farm_f (hW : NW w f C N h d) {x y : Int32} (hv : ¬ (rng x f ∧ rng y 4)) : nc_Call m_X12_farm [mO, .inl x, .inl y] w = some (some (.inl 0), thr w 1) := by
  obtain ⟨⟨x1, x2, x3, x4, x5, x6⟩, x7⟩ := hW
  have hf : f ≤ 4 := x3.1.2.2.2.2.1
  rw [qc_X12_farm]
  by_cases hx : rng x f
  · have hy : ¬ (0 ≤ y ∧ y ≤ 3) := fun q => hv ⟨hx, (rng_M (n := 4) (by decide)).mp ⟨q.1, Int32.le_trans q.2 (by decide)⟩⟩
    rw [mm_isFarm_t x3.1.1 (by omega) hx, nc_bI_v, if_neg (by decide), sm_isIn, nc_bI_v, tI_f hy, if_neg (fun q => q rfl), sm_throws1, nc_bI_v, if_neg (by decide)]
  · rw [mm_isFarm_f x3.1.1 (by omega) hx, nc_bI_v, if_pos rfl, sm_throws1, nc_bI_v, if_neg (by decide)]
end CF
