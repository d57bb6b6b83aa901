/-! image, restore. -/
section IR
variable {w w' v : nc_H} {f C N h d k : Nat} {S : Nat → Int32}
theorem sm_image1 (hk : k < 2) : nc_Run m_X12_image 18 [some mO, some (.inl (nI k)), some (.inl (nI 0))] [] v = nc_Run m_X12_image 51 [some mO, some (.inl (nI k)), some (.inl (nI 0))] [] (row v 914 0 (fun j => if 513 * k ≤ j ∧ j < 513 * k + 513 then v.1 874 0 (j - 513 * k) else v.1 914 0 j)) := by
  have key := it_loop (R := fun i (_ : Unit) => nc_Run m_X12_image 18 [some mO, some (.inl (nI k)), some (.inl (nI i))] [] (row v 914 0 (fun j => if 513 * k ≤ j ∧ j < 513 * k + i then v.1 874 0 (j - 513 * k) else v.1 914 0 j))) (st := fun _ a => a) (I := fun _ _ => True) (n := 513) (out := fun _ => nc_Run m_X12_image 51 [some mO, some (.inl (nI k)), some (.inl (nI 0))] [] (row v 914 0 (fun j => if 513 * k ≤ j ∧ j < 513 * k + 513 then v.1 874 0 (j - 513 * k) else v.1 914 0 j))) ?_ ?_ 513 0 () (by omega) trivial
  · have e0 : row v 914 0 (fun j => if 513 * k ≤ j ∧ j < 513 * k + 0 then v.1 874 0 (j - 513 * k) else v.1 914 0 j) = v := by
      rw [row_c (g' := v.1 914 0) (fun j => if_neg (by omega)), row_id]
    have k2 : nc_Run m_X12_image 18 [some mO, some (.inl (nI k)), some (.inl (nI 0))] [] (row v 914 0 (fun j => if 513 * k ≤ j ∧ j < 513 * k + 0 then v.1 874 0 (j - 513 * k) else v.1 914 0 j)) = _ := key
    rw [e0] at k2
    exact k2
  · intro i _ hi _
    refine ⟨?_, trivial⟩
    show nc_Run m_X12_image 18 _ _ _ = nc_Run m_X12_image 18 _ _ _
    have ix : (513 * nI k) + nI i = nI (513 * k + i) := by
      rw [show (513 : Int32) = nI 513 from rfl, pk_mul, nI_add]
    rw [qr_X12_image_18, if_neg (show ¬ (513 : Int32) ≤ nI i from nI_ge hi (by decide)), bd8 i 513 (by omega) (by decide), nc_bd_of _ ix (by omega) (by decide), nc_lt_v, nc_li_v, nI_1, si_rw, row_s, row_r, row_t (by decide)]
    rw [row_c (w := v) (t := 914) (a := 0) (g' := fun j => if 513 * k ≤ j ∧ j < 513 * k + (i + 1) then v.1 874 0 (j - 513 * k) else v.1 914 0 j) (fun j => ?_)]
    by_cases e : j = 513 * k + i
    · subst e
      rw [upd_s, if_pos (by omega), Nat.add_sub_cancel_left]
    · rw [upd_n e]
      by_cases q : 513 * k ≤ j ∧ j < 513 * k + i
      · rw [if_pos q, if_pos (by omega)]
      · rw [if_neg q, if_neg (by omega)]
  · intro _ _
    show nc_Run m_X12_image 18 _ _ _ = _
    rw [qr_X12_image_18, if_pos (by decide +kernel)]
    rfl
theorem sm_image2 (hk : k < 2) : nc_Run m_X12_image 51 [some mO, some (.inl (nI k)), some (.inl (nI 0))] [] v = some (some (.inl 1), row (rol v 915 0 (fun j => if 22 * k ≤ j ∧ j < 22 * k + 22 then v.2 877 0 (j - 22 * k) else v.2 915 0 j)) 916 0 (upd (v.1 916 0) k 1)) := by
  have key := it_loop (R := fun i (_ : Unit) => nc_Run m_X12_image 51 [some mO, some (.inl (nI k)), some (.inl (nI i))] [] (rol v 915 0 (fun j => if 22 * k ≤ j ∧ j < 22 * k + i then v.2 877 0 (j - 22 * k) else v.2 915 0 j))) (st := fun _ a => a) (I := fun _ _ => True) (n := 22) (out := fun _ => some (some (.inl 1), row (rol v 915 0 (fun j => if 22 * k ≤ j ∧ j < 22 * k + 22 then v.2 877 0 (j - 22 * k) else v.2 915 0 j)) 916 0 (upd (v.1 916 0) k 1))) ?_ ?_ 22 0 () (by omega) trivial
  · have e0 : rol v 915 0 (fun j => if 22 * k ≤ j ∧ j < 22 * k + 0 then v.2 877 0 (j - 22 * k) else v.2 915 0 j) = v := by
      rw [rol_c (g' := v.2 915 0) (fun j => if_neg (by omega)), rol_id]
    have k2 : nc_Run m_X12_image 51 [some mO, some (.inl (nI k)), some (.inl (nI 0))] [] (rol v 915 0 (fun j => if 22 * k ≤ j ∧ j < 22 * k + 0 then v.2 877 0 (j - 22 * k) else v.2 915 0 j)) = _ := key
    rw [e0] at k2
    exact k2
  · intro i _ hi _
    refine ⟨?_, trivial⟩
    show nc_Run m_X12_image 51 _ _ _ = nc_Run m_X12_image 51 _ _ _
    have ix : (22 * nI k) + nI i = nI (22 * k + i) := by
      rw [show (22 : Int32) = nI 22 from rfl, pk_mul, nI_add]
    rw [qr_X12_image_51, if_neg (show ¬ (22 : Int32) ≤ nI i from nI_ge hi (by decide)), bd8 i 44 (by omega) (by decide), nc_bd_of _ ix (by omega) (by decide), nc_lt_v, nc_li_v, nI_1, sl_rw, rol_s, rol_r, rol_n (by omega)]
    rw [rol_c (w := v) (t := 915) (a := 0) (g' := fun j => if 22 * k ≤ j ∧ j < 22 * k + (i + 1) then v.2 877 0 (j - 22 * k) else v.2 915 0 j) (fun j => ?_)]
    by_cases e : j = 22 * k + i
    · subst e
      rw [updL_s, if_pos (by omega), Nat.add_sub_cancel_left]
    · rw [updL_n e]
      by_cases q : 22 * k ≤ j ∧ j < 22 * k + i
      · rw [if_pos q, if_pos (by omega)]
      · rw [if_neg q, if_neg (by omega)]
  · intro _ _
    show nc_Run m_X12_image 51 _ _ _ = _
    rw [qr_X12_image_51, if_pos (by decide +kernel), bd8 k 2 hk (by decide), nc_lt_v, si_rw, rol_1]
theorem rng_2 {x : Int32} (h : rng x 2) : x = 0 ∨ x = 1 := by
  obtain ⟨k, k1, rfl⟩ := h
  have e : k = 0 ∨ k = 1 := by omega
  rcases e with rfl | rfl
  · exact Or.inl rfl
  · exact Or.inr rfl
theorem isIn01 {x : Int32} : (0 ≤ x ∧ x ≤ 1) ↔ rng x 2 := by
  rw [← rng_M (n := 2) (by decide)]
  rfl
theorem n01 {x : Int32} (h : ¬ rng x 2) : ¬ x = 0 ∧ ¬ x = 1 := ⟨fun e => h ⟨0, by decide, e⟩, fun e => h ⟨1, by decide, e⟩⟩
/-- rows that an image k changes, of the class -/
def iC (k t a : Nat) : Prop := (t = 6 ∧ a = k) ∨ dC (2 + k) t a ∨ lC (12 + k) t a ∨ sC (2 + k) t a
theorem sc_image {Y : Nat → Int64} (hk : k < 2) (hX : ST w 0 0 0 S Y f C N h d) : ∃ w', nc_Call m_X11_image [cO, .inl (nI k)] w = some (some (.inl 1), w') ∧ (∀ t a, ¬ iC k t a → w'.1 t a = w.1 t a) ∧ (∀ t a, ¬ (t = 236 ∧ a = 2 + k) → w'.2 t a = w.2 t a) ∧ w'.1 6 k 0 = 1 ∧ ST w' (2 + k) (12 + k) (2 + k) S Y f C N h d := by
  have X0 : ST (row w 6 k (upd (w.1 6 k) 0 1)) 0 0 0 S Y f C N h d := ST_eq hX (fun t ht => by rw [row_t (by omega)]) rfl (fun t ht => by rw [row_t (by omega)]) (fun t ht => by rw [row_t (by omega)])
  obtain ⟨w1, a1, a2, a3, a4⟩ := sd_copyFrom (w := row w 6 k (upd (w.1 6 k) 0 1)) (a := 2 + k) (b := 0) (by omega)
  obtain ⟨w2, b1, b2, b3⟩ := sl_copyFrom (w := w1) (a := 12 + k) (b := 0) (by omega)
  obtain ⟨w3, c1, c2, c3⟩ := ss_copyFrom (w := w2) (a := 2 + k) (b := 0) (by omega)
  refine ⟨w3, ?_, fun t a q => ?_, fun t a q => ?_, ?_, ST_cp3 X0 a2 a3 a4 b2 b3 c2 c3⟩
  · rw [qc_X11_image]
    have e : k = 0 ∨ k = 1 := by omega
    rcases e with rfl | rfl
    · rw [if_pos (show nI 0 = 0 from rfl), if_neg (fun q => q rfl), nc_lt_v, si_rw, a1, nc_bV_v, b1, nc_bV_v, c1, nc_bV_v]
    · rw [if_neg (show ¬ nI 1 = 0 by decide), if_pos (show nI 1 = 1 from rfl), if_pos (show nI 1 ≠ 0 by decide), nc_lt_v, si_rw, a1, nc_bV_v, b1, nc_bV_v, c1, nc_bV_v]
  · unfold iC at q
    rw [c2.2 t a (fun z => q (Or.inr (Or.inr (Or.inr z)))), b2.2 t a (fun z => q (Or.inr (Or.inr (Or.inl z)))), a2 t a (fun z => q (Or.inr (Or.inl z))), row_n (fun z => q (Or.inl z))]
  · rw [c2.1, b2.1, a3 t a q]
    rfl
  · rw [c2.2 6 k (by unfold sC; omega), b2.2 6 k (by unfold lC; omega), a2 6 k (by unfold dC; omega), row_s, upd_s]
theorem op_image (hI : Inv w) (x : Int32) : Op w (nc_Call m_X11_image [cO, .inl x]) (nc_Call m_X12_image [mO, .inl x]) := by
  have hI0 := hI
  obtain ⟨⟨f, C, N, h, d, hW⟩, hM, -⟩ := hI
  by_cases b : rng x 2
  · have b' := b
    obtain ⟨k, hk, rfl⟩ := b'
    obtain ⟨w1, a1, a2, a3, a4, a5⟩ := sc_image hk hW.1
    have M1 := sm_image1 (v := thr w1 0) hk
    have M2 := sm_image2 (v := row (thr w1 0) 914 0 (fun j => if 513 * k ≤ j ∧ j < 513 * k + 513 then (thr w1 0).1 874 0 (j - 513 * k) else (thr w1 0).1 914 0 j)) hk
    rw [M2] at M1
    have s0 : (thr w1 0).1 874 0 = w.1 874 0 := by rw [thr_874, a2 874 0 (by unfold iC dC lC sC; omega)]
    have s1 : (thr w1 0).1 914 0 = w.1 914 0 := by rw [thr_t (by decide), a2 914 0 (by unfold iC dC lC sC; omega)]
    have n0 : (row (thr w1 0) 914 0 (fun j => if 513 * k ≤ j ∧ j < 513 * k + 513 then (thr w1 0).1 874 0 (j - 513 * k) else (thr w1 0).1 914 0 j)).2 877 0 = w.2 877 0 := a3 877 0 (by omega)
    have n1 : (row (thr w1 0) 914 0 (fun j => if 513 * k ≤ j ∧ j < 513 * k + 513 then (thr w1 0).1 874 0 (j - 513 * k) else (thr w1 0).1 914 0 j)).2 915 0 = w.2 915 0 := a3 915 0 (by omega)
    have n2 : (row (thr w1 0) 914 0 (fun j => if 513 * k ≤ j ∧ j < 513 * k + 513 then (thr w1 0).1 874 0 (j - 513 * k) else (thr w1 0).1 914 0 j)).1 916 0 = w.1 916 0 := by rw [row_t (by decide), thr_t (by decide), a2 916 0 (by unfold iC dC lC sC; omega)]
    rw [n0, n1, n2, s0, s1] at M1
    generalize hv : row (rol (row (thr w1 0) 914 0 (fun j => if 513 * k ≤ j ∧ j < 513 * k + 513 then w.1 874 0 (j - 513 * k) else w.1 914 0 j)) 915 0 (fun j => if 22 * k ≤ j ∧ j < 22 * k + 22 then w.2 877 0 (j - 22 * k) else w.2 915 0 j)) 916 0 (upd (w.1 916 0) k 1) = v2 at M1
    have r1 : ∀ t a, ¬ (a = 0 ∧ (t = 12 ∨ t = 914 ∨ t = 916)) → v2.1 t a = w1.1 t a := fun t a q => by
      rw [← hv, row_n (by omega), rol_1, row_n (by omega), row_n (by omega)]
    have r2 : ∀ t a, ¬ (t = 915 ∧ a = 0) → v2.2 t a = w1.2 t a := fun t a q => by
      rw [← hv, row_2, rol_n q]
      rfl
    have r3 : ∀ j, v2.1 914 0 j = if 513 * k ≤ j ∧ j < 513 * k + 513 then w.1 874 0 (j - 513 * k) else w.1 914 0 j := fun j => by
      rw [← hv, row_t (by decide), rol_1, row_s]
    have r4 : ∀ j, v2.2 915 0 j = if 22 * k ≤ j ∧ j < 22 * k + 22 then w.2 877 0 (j - 22 * k) else w.2 915 0 j := fun j => by
      rw [← hv, row_2, rol_s]
    have r5 : v2.1 916 0 = upd (w.1 916 0) k 1 := by rw [← hv, row_s]
    have r6 : ∀ j, j ≠ 0 → v2.1 12 0 j = w.1 12 0 j := fun j hj => by
      rw [← hv, row_t (by decide), rol_1, row_t (by decide), thr_k hj, a2 12 0 (by unfold iC dC lC sC; omega)]
    have q1 : ∀ t a, ¬ (a = 0 ∧ (t = 12 ∨ t = 914 ∨ t = 916)) → ¬ iC k t a → v2.1 t a = w.1 t a := fun t a q q2 => (r1 t a q).trans (a2 t a q2)
    have q2 : ∀ t a, ¬ (t = 915 ∧ a = 0) → ¬ (t = 236 ∧ a = 2 + k) → v2.2 t a = w.2 t a := fun t a q q2 => (r2 t a q).trans (a3 t a q2)
    refine ⟨1, w1, v2, a1, ?_, ?_⟩
    · rw [qc_X12_image, nc_lt_v, thr_si, sm_isIn, nc_bI_v, tI_t (isIn01.mpr b), if_pos (by decide)]
      exact M1
    · refine Inv_sm hI0 ⟨f, C, N, h, d, ?_, ?_⟩ (fun j hj => ?_) (fun t ht => q1 t 0 (by omega) (by unfold iC dC lC sC; omega)) (fun j hj => r6 j (by unfold k12 at hj; omega)) (fun t ht => q2 t 0 (by omega) (by omega))
      · rw [q1 874 0 (by omega) (by unfold iC dC lC sC; omega), q2 877 0 (by omega) (by omega)]
        exact ST_eq hW.1 (fun t ht => q1 t 0 (by omega) (by unfold iC dC lC sC; omega)) (q2 236 0 (by omega) (by omega)) (fun t ht => q1 t 0 (by omega) (by unfold iC dC lC sC; omega)) (fun t ht => q1 t 0 (by omega) (by unfold iC dC lC sC; omega))
      · rw [q1 874 0 (by omega) (by unfold iC dC lC sC; omega)]
        exact HR_eq hW.2 (r6 24 (by decide)) (q1 5 0 (by omega) (by unfold iC dC lC sC; omega)) (q1 890 0 (by omega) (by unfold iC dC lC sC; omega)) (fun t a ht h2 h9 => q1 t a (by omega) (by unfold iC dC lC sC; omega))
      · by_cases e : j = k
        · subst e
          refine Or.inr ⟨by rw [r1 6 j (by omega), a4], by rw [r5, upd_s], f, C, N, h, d, ?_⟩
          refine ST_s (ST_eq a5 (fun t ht => r1 t _ (by omega)) (r2 236 _ (by omega)) (fun t ht => r1 t _ (by omega)) (fun t ht => r1 t _ (by omega))) (fun i hi => ?_) (fun i hi => ?_)
          · show v2.1 914 0 (513 * j + i) = _
            rw [r3, if_pos (by omega), Nat.add_sub_cancel_left]
          · show v2.2 915 0 (22 * j + i) = _
            rw [r4, if_pos (by omega), Nat.add_sub_cancel_left]
        · rcases hM j hj with ⟨z1, z2⟩ | ⟨z1, z2, f', C', N', h', d', z3⟩
          · exact Or.inl ⟨by rw [q1 6 j (by omega) (by unfold iC dC lC sC; omega)]; exact z1, by rw [r5, upd_n e]; exact z2⟩
          · refine Or.inr ⟨by rw [q1 6 j (by omega) (by unfold iC dC lC sC; omega)]; exact z1, by rw [r5, upd_n e]; exact z2, f', C', N', h', d', ?_⟩
            refine ST_s (ST_eq z3 (fun t ht => q1 t _ (by omega) (by unfold iC dC lC sC; omega)) (q2 236 _ (by omega) (by omega)) (fun t ht => q1 t _ (by omega) (by unfold iC dC lC sC; omega)) (fun t ht => q1 t _ (by omega) (by unfold iC dC lC sC; omega))) (fun i hi => ?_) (fun i hi => ?_)
            · show v2.1 914 0 (513 * j + i) = _
              rw [r3, if_neg (by omega)]
            · show v2.2 915 0 (22 * j + i) = _
              rw [r4, if_neg (by omega)]
  · refine rd hI0 ⟨0, ?_, ?_⟩
    · rw [qc_X11_image, if_neg (n01 b).1, if_neg (n01 b).2]
    · rw [qc_X12_image, nc_lt_v, thr_si, sm_isIn, nc_bI_v, tI_f (fun q => b (isIn01.mp q)), if_neg (fun q => q rfl)]
theorem sm_restore1 (hk : k < 2) : nc_Run m_X12_restore 27 [some mO, some (.inl (nI k)), some (.inl (nI 0))] [] v = nc_Run m_X12_restore 60 [some mO, some (.inl (nI k)), some (.inl (nI 0))] [] (row v 874 0 (fun j => if j < 513 then v.1 914 0 (513 * k + j) else v.1 874 0 j)) := by
  have key := it_loop (R := fun i (_ : Unit) => nc_Run m_X12_restore 27 [some mO, some (.inl (nI k)), some (.inl (nI i))] [] (row v 874 0 (fun j => if j < i then v.1 914 0 (513 * k + j) else v.1 874 0 j))) (st := fun _ a => a) (I := fun _ _ => True) (n := 513) (out := fun _ => nc_Run m_X12_restore 60 [some mO, some (.inl (nI k)), some (.inl (nI 0))] [] (row v 874 0 (fun j => if j < 513 then v.1 914 0 (513 * k + j) else v.1 874 0 j))) ?_ ?_ 513 0 () (by omega) trivial
  · have e0 : row v 874 0 (fun j => if j < 0 then v.1 914 0 (513 * k + j) else v.1 874 0 j) = v := by
      rw [row_c (g' := v.1 874 0) (fun j => if_neg (by omega)), row_id]
    have k2 : nc_Run m_X12_restore 27 [some mO, some (.inl (nI k)), some (.inl (nI 0))] [] (row v 874 0 (fun j => if j < 0 then v.1 914 0 (513 * k + j) else v.1 874 0 j)) = _ := key
    rw [e0] at k2
    exact k2
  · intro i _ hi _
    refine ⟨?_, trivial⟩
    show nc_Run m_X12_restore 27 _ _ _ = nc_Run m_X12_restore 27 _ _ _
    have ix : (513 * nI k) + nI i = nI (513 * k + i) := by
      rw [show (513 : Int32) = nI 513 from rfl, pk_mul, nI_add]
    rw [qr_X12_restore_27, if_neg (show ¬ (513 : Int32) ≤ nI i from nI_ge hi (by decide)), nc_bd_of _ ix (by omega) (by decide), bd8 i 513 (by omega) (by decide), nc_lt_v, nc_li_v, nI_1, si_rw, row_s, row_r, row_t (by decide)]
    rw [row_c (w := v) (t := 874) (a := 0) (g' := fun j => if j < i + 1 then v.1 914 0 (513 * k + j) else v.1 874 0 j) (fun j => ?_)]
    by_cases e : j = i
    · subst e
      rw [upd_s, if_pos (by omega)]
    · rw [upd_n e]
      by_cases q : j < i
      · rw [if_pos q, if_pos (by omega)]
      · rw [if_neg q, if_neg (by omega)]
  · intro _ _
    show nc_Run m_X12_restore 27 _ _ _ = _
    rw [qr_X12_restore_27, if_pos (by decide +kernel)]
    rfl
theorem sm_restore2 (hk : k < 2) : nc_Run m_X12_restore 60 [some mO, some (.inl (nI k)), some (.inl (nI 0))] [] v = some (some (.inl 1), row (rol v 877 0 (fun j => if j < 22 then v.2 915 0 (22 * k + j) else v.2 877 0 j)) 12 0 (upd (v.1 12 0) 24 0)) := by
  have key := it_loop (R := fun i (_ : Unit) => nc_Run m_X12_restore 60 [some mO, some (.inl (nI k)), some (.inl (nI i))] [] (rol v 877 0 (fun j => if j < i then v.2 915 0 (22 * k + j) else v.2 877 0 j))) (st := fun _ a => a) (I := fun _ _ => True) (n := 22) (out := fun _ => some (some (.inl 1), row (rol v 877 0 (fun j => if j < 22 then v.2 915 0 (22 * k + j) else v.2 877 0 j)) 12 0 (upd (v.1 12 0) 24 0))) ?_ ?_ 22 0 () (by omega) trivial
  · have e0 : rol v 877 0 (fun j => if j < 0 then v.2 915 0 (22 * k + j) else v.2 877 0 j) = v := by
      rw [rol_c (g' := v.2 877 0) (fun j => if_neg (by omega)), rol_id]
    have k2 : nc_Run m_X12_restore 60 [some mO, some (.inl (nI k)), some (.inl (nI 0))] [] (rol v 877 0 (fun j => if j < 0 then v.2 915 0 (22 * k + j) else v.2 877 0 j)) = _ := key
    rw [e0] at k2
    exact k2
  · intro i _ hi _
    refine ⟨?_, trivial⟩
    show nc_Run m_X12_restore 60 _ _ _ = nc_Run m_X12_restore 60 _ _ _
    have ix : (22 * nI k) + nI i = nI (22 * k + i) := by
      rw [show (22 : Int32) = nI 22 from rfl, pk_mul, nI_add]
    rw [qr_X12_restore_60, if_neg (show ¬ (22 : Int32) ≤ nI i from nI_ge hi (by decide)), nc_bd_of _ ix (by omega) (by decide), bd8 i 44 (by omega) (by decide), nc_lt_v, nc_li_v, nI_1, sl_rw, rol_s, rol_r, rol_n (by omega)]
    rw [rol_c (w := v) (t := 877) (a := 0) (g' := fun j => if j < i + 1 then v.2 915 0 (22 * k + j) else v.2 877 0 j) (fun j => ?_)]
    by_cases e : j = i
    · subst e
      rw [updL_s, if_pos (by omega)]
    · rw [updL_n e]
      by_cases q : j < i
      · rw [if_pos q, if_pos (by omega)]
      · rw [if_neg q, if_neg (by omega)]
  · intro _ _
    show nc_Run m_X12_restore 60 _ _ _ = _
    rw [qr_X12_restore_60, if_pos (by decide +kernel), nc_lt_v, si_rw, rol_1]
/-- rows that a restore changes, of the class -/
def rC (t a : Nat) : Prop := dC 0 t a ∨ lC 0 t a ∨ sC 0 t a ∨ (t = 5 ∧ a = 0)
theorem sc_restore {Y : Nat → Int64} (hk : k < 2) (h1 : w.1 6 k 0 = 1) (hX : ST w (2 + k) (12 + k) (2 + k) S Y f C N h d) : ∃ w', nc_Call m_X11_restore [cO, .inl (nI k)] w = some (some (.inl 1), w') ∧ (∀ t a, ¬ rC t a → w'.1 t a = w.1 t a) ∧ (∀ t a, ¬ (t = 236 ∧ a = 0) → w'.2 t a = w.2 t a) ∧ w'.1 5 0 = upd (w.1 5 0) 2 0 ∧ ST w' 0 0 0 S Y f C N h d := by
  obtain ⟨w1, a1, a2, a3, a4⟩ := sd_copyFrom (w := w) (a := 0) (b := 2 + k) (by omega)
  obtain ⟨w2, b1, b2, b3⟩ := sl_copyFrom (w := w1) (a := 0) (b := 12 + k) (by omega)
  obtain ⟨w3, c1, c2, c3⟩ := ss_copyFrom (w := w2) (a := 0) (b := 2 + k) (by omega)
  have X3 := ST_cp3 hX a2 a3 a4 b2 b3 c2 c3
  refine ⟨row w3 5 0 (upd (w3.1 5 0) 2 0), ?_, fun t a q => ?_, fun t a q => ?_, ?_, ST_eq X3 (fun t ht => by rw [row_t (by omega)]) rfl (fun t ht => by rw [row_t (by omega)]) (fun t ht => by rw [row_t (by omega)])⟩
  · rw [qc_X11_restore]
    have e : k = 0 ∨ k = 1 := by omega
    rcases e with rfl | rfl
    · rw [if_pos (show nI 0 = 0 from rfl), if_neg (fun q => q rfl), h1, if_pos (by decide), a1, nc_bV_v, b1, nc_bV_v, c1, nc_bV_v, qc_X5_clear, nc_lt_v, nc_bV_v, si_rw]
    · rw [if_neg (show ¬ nI 1 = 0 by decide), if_pos (show nI 1 = 1 from rfl), if_pos (show nI 1 ≠ 0 by decide), h1, if_pos (by decide), a1, nc_bV_v, b1, nc_bV_v, c1, nc_bV_v, qc_X5_clear, nc_lt_v, nc_bV_v, si_rw]
  · unfold rC at q
    rw [row_n (fun z => q (Or.inr (Or.inr (Or.inr z)))), c2.2 t a (fun z => q (Or.inr (Or.inr (Or.inl z)))), b2.2 t a (fun z => q (Or.inr (Or.inl z))), a2 t a (fun z => q (Or.inl z))]
  · show w3.2 t a = _
    rw [c2.1, b2.1, a3 t a q]
  · rw [row_s, c2.2 5 0 (by unfold sC; omega), b2.2 5 0 (by unfold lC; omega), a2 5 0 (by unfold dC; omega)]
theorem op_restore (hI : Inv w) (x : Int32) : Op w (nc_Call m_X11_restore [cO, .inl x]) (nc_Call m_X12_restore [mO, .inl x]) := by
  have hI0 := hI
  obtain ⟨⟨f0, C0, N0, h0, d0, hW⟩, hM, -⟩ := hI
  by_cases b : rng x 2
  · have b' := b
    obtain ⟨k, hk, rfl⟩ := b'
    rcases hM k hk with ⟨z1, z2⟩ | ⟨z1, z2, f, C, N, h, d, z3⟩
    · refine rd hI0 ⟨0, ?_, ?_⟩
      · rw [qc_X11_restore]
        have e : k = 0 ∨ k = 1 := by omega
        rcases e with rfl | rfl
        · rw [if_pos (show nI 0 = 0 from rfl), if_neg (fun q => q rfl), z1, if_neg (fun q => q rfl)]
        · rw [if_neg (show ¬ nI 1 = 0 by decide), if_pos (show nI 1 = 1 from rfl), if_pos (show nI 1 ≠ 0 by decide), z1, if_neg (fun q => q rfl)]
      · rw [qc_X12_restore, nc_lt_v, thr_si, sm_isIn, nc_bI_v, tI_t (isIn01.mpr b), if_neg (by decide), bd8 k 2 hk (by decide), thr_t (by decide), z2, if_neg (fun q => q rfl)]
    · obtain ⟨w1, a1, a2, a3, a4, a5⟩ := sc_restore hk z1 z3
      have M1 := sm_restore1 (v := thr w1 0) hk
      have M2 := sm_restore2 (v := row (thr w1 0) 874 0 (fun j => if j < 513 then (thr w1 0).1 914 0 (513 * k + j) else (thr w1 0).1 874 0 j)) hk
      rw [M2] at M1
      have s1 : (thr w1 0).1 914 0 = w.1 914 0 := by rw [thr_t (by decide), a2 914 0 (by unfold rC dC lC sC; omega)]
      have n1 : (row (thr w1 0) 874 0 (fun j => if j < 513 then (thr w1 0).1 914 0 (513 * k + j) else (thr w1 0).1 874 0 j)).2 915 0 = w.2 915 0 := a3 915 0 (by omega)
      rw [n1, s1] at M1
      generalize hv : row (rol (row (thr w1 0) 874 0 (fun j => if j < 513 then w.1 914 0 (513 * k + j) else (thr w1 0).1 874 0 j)) 877 0 (fun j => if j < 22 then w.2 915 0 (22 * k + j) else (row (thr w1 0) 874 0 (fun j => if j < 513 then w.1 914 0 (513 * k + j) else (thr w1 0).1 874 0 j)).2 877 0 j)) 12 0 (upd ((row (thr w1 0) 874 0 (fun j => if j < 513 then w.1 914 0 (513 * k + j) else (thr w1 0).1 874 0 j)).1 12 0) 24 0) = v2 at M1
      have r1 : ∀ t a, ¬ (a = 0 ∧ (t = 12 ∨ t = 874)) → v2.1 t a = w1.1 t a := fun t a q => by
        rw [← hv, row_n (by omega), rol_1, row_n (by omega), row_n (by omega)]
      have r2 : ∀ t a, ¬ (t = 877 ∧ a = 0) → v2.2 t a = w1.2 t a := fun t a q => by
        rw [← hv, row_2, rol_n q]
        rfl
      have r3 : ∀ j, j < 513 → v2.1 874 0 j = w.1 914 0 (513 * k + j) := fun j hj => by
        rw [← hv, row_t (by decide), rol_1, row_s, if_pos hj]
      have r4 : ∀ j, j < 22 → v2.2 877 0 j = w.2 915 0 (22 * k + j) := fun j hj => by
        rw [← hv, row_2, rol_s, if_pos hj]
      have r6 : ∀ j, j ≠ 0 → j ≠ 24 → v2.1 12 0 j = w.1 12 0 j := fun j h1 h2 => by
        rw [← hv, row_s, upd_n h2, row_t (by decide), thr_k h1, a2 12 0 (by unfold rC dC lC sC; omega)]
      have r7 : v2.1 12 0 24 = nI 0 := by
        rw [← hv, row_s, upd_s]
        rfl
      have q1 : ∀ t a, ¬ (a = 0 ∧ (t = 12 ∨ t = 874)) → ¬ rC t a → v2.1 t a = w.1 t a := fun t a q q2 => (r1 t a q).trans (a2 t a q2)
      have q2 : ∀ t a, ¬ (t = 877 ∧ a = 0) → ¬ (t = 236 ∧ a = 0) → v2.2 t a = w.2 t a := fun t a q q2 => (r2 t a q).trans (a3 t a q2)
      refine ⟨1, w1, v2, a1, ?_, ?_⟩
      · rw [qc_X12_restore, nc_lt_v, thr_si, sm_isIn, nc_bI_v, tI_t (isIn01.mpr b), if_neg (by decide), bd8 k 2 hk (by decide), thr_t (by decide), a2 916 0 (by unfold rC dC lC sC; omega), z2, if_pos (by decide)]
        exact M1
      · obtain ⟨-, u, nw, y1, y2, y3, y4, y5, y6⟩ := hW
        refine Inv_sm hI0 ⟨f, C, N, h, d, ?_, ?_⟩ ?_ (fun t ht => q1 t 0 (by omega) (by unfold rC dC lC sC; omega)) (fun j hj => r6 j (by unfold k12 at hj; omega) (by unfold k12 at hj; omega)) (fun t ht => q2 t 0 (by omega) (by omega))
        · exact ST_s (ST_eq a5 (fun t ht => r1 t _ (by omega)) (r2 236 _ (by omega)) (fun t ht => r1 t _ (by omega)) (fun t ht => r1 t _ (by omega))) r3 r4
        · refine ⟨0, nw, by omega, y2, r7, ?_, ?_, fun j hj => absurd hj (Nat.not_lt_zero j)⟩
          · rw [r1 5 0 (by omega), a4, upd_s]
            rfl
          · rw [r1 5 0 (by omega), a4, upd_n (by decide)]
            exact y5
        · exact IM_eq hM (fun j hj => q1 6 j (by omega) (by unfold rC dC lC sC; omega)) (q1 914 0 (by omega) (by unfold rC dC lC sC; omega)) (q2 915 0 (by omega) (by omega)) (q1 916 0 (by omega) (by unfold rC dC lC sC; omega)) (fun t a ht ha => q1 t a (by omega) (by unfold rC dC lC sC; omega)) (fun a ha => q2 236 a (by omega) (by omega)) (fun t a ht ha => q1 t a (by omega) (by unfold rC dC lC sC; omega)) (fun t a ht ha => q1 t a (by omega) (by unfold rC dC lC sC; omega))
  · refine rd hI0 ⟨0, ?_, ?_⟩
    · rw [qc_X11_restore, if_neg (n01 b).1, if_neg (n01 b).2]
    · rw [qc_X12_restore, nc_lt_v, thr_si, sm_isIn, nc_bI_v, tI_f (fun q => b (isIn01.mp q)), if_pos rfl]
end IR
