/-! ACTS: tell, find, days, undo. -/
section AC
variable {w w1 w2 w3 w4 : nc_H} {f C N h d d' u nw : Nat} {S' : Nat → Int32}
theorem NW_act {w' : nc_H} (hX : NW w f C N h d) (E : eqO jB w w') (hS : ∀ k, k < 76 ∨ 332 ≤ k → w'.1 874 0 k = w.1 874 0 k) (hl : lok (w'.1 874 0) C N d') (hL : LR w' 0 (w'.1 874 0) f C N) (hH : HR w' (w'.1 874 0) f C N) : NW w' f C N h d' := by
  refine ⟨?_, hH⟩
  rw [E.1]
  exact ST_c hX.1 hS (fun t ht => E.2 t 0 (fun q => by unfold jB at q; omega)) (by rw [E.1]) (fun t ht => E.2 t 0 (fun q => by unfold jB at q; omega)) hl hL
def aP (t a : Nat) : Prop := lP 0 t a ∨ (t = 4 ∧ a = 0)
def mP (t a : Nat) : Prop := a = 0 ∧ (t = 12 ∨ t = 874 ∨ t = 889)
theorem keep2 (hW : NW w f C N h d) : ∃ u nw w1, HX w (w.1 874 0) f C N u nw ∧ nc_Call m_X5_keep [.inr (.inr (5, 0)), lO 0] w = some (none, w1) ∧ eqO (kC nw) w w1 ∧ LR w1 (2 + (nw + 1) % 8) (w.1 874 0) f C N ∧ LR w1 0 (w.1 874 0) f C N ∧ DR w1 0 (w.1 874 0) f C N h ∧ w1.1 5 0 1 = nI ((nw + 1) % 8) ∧ w1.1 5 0 2 = nI (min (u + 1) 8) := by
  obtain ⟨⟨x1, x2, x3, x4, x5, x6⟩, u, nw, x7⟩ := hW
  have hf : f ≤ 4 := x3.1.2.2.2.2.1
  have hC : C ≤ 8 := x3.1.2.2.2.2.2.1
  have hN : N ≤ 10 := x3.1.2.2.2.2.2.2.1
  obtain ⟨w1, a1, a2, a3, a4, a5⟩ := sc_keep x7.1 x7.2.1 x7.2.2.2.2.1 x7.2.2.2.1
  refine ⟨u, nw, w1, x7, a1, a2, LR_cp hf hC hN a3 x5, LR_eq x5 (fun t ht => a2.2 t 0 (fun q => by unfold kC lC at q; omega)), DR_eq x3 (fun t ht => a2.2 t 0 (fun q => by unfold kC lC at q; omega)) (fun _ _ => rfl), a4, a5⟩
theorem act_end (hI : Inv w) (hW : NW w f C N h d) (hX : HX w (w.1 874 0) f C N u nw) (K : eqO (kC nw) w w1) (KL : LR w1 (2 + (nw + 1) % 8) (w.1 874 0) f C N) (K1 : w1.1 5 0 1 = nI ((nw + 1) % 8)) (K2 : w1.1 5 0 2 = nI (min (u + 1) 8)) (A1 : eqO aP w1 w2) (M1 : eqO mK (thr w2 0) w3) (M2 : ∀ k, k ≠ 24 → w3.1 12 0 k = (thr w2 0).1 12 0 k) (M3 : w3.1 12 0 24 = nI (min (u + 1) 8)) (M4 : w3.1 890 0 = kpU ((thr w2 0).1 890 0) ((thr w2 0).1 874 0) u) (A2 : eqO mP w3 w4) (h12 : ∀ k, k12 k ∨ k = 24 → w4.1 12 0 k = w3.1 12 0 k) (hS : ∀ k, k < 76 ∨ 332 ≤ k → w4.1 874 0 k = w.1 874 0 k) (hl : lok (w4.1 874 0) C N d') (hL : LR w2 0 (w4.1 874 0) f C N) : Inv w4 := by
  have e1 : ∀ t a, ¬ kC nw t a → ¬ aP t a → w2.1 t a = w.1 t a := fun t a q1 q2 => (A1.2 t a q2).trans (K.2 t a q1)
  have e2 : ∀ t a, ¬ (t = 12 ∧ a = 0) → (thr w2 0).1 t a = w2.1 t a := fun t a q => row_n q
  have e3 : ∀ t a, ¬ (t = 12 ∧ a = 0) → ¬ mK t a → ¬ mP t a → w4.1 t a = w2.1 t a := fun t a q1 q2 q3 => (A2.2 t a q3).trans ((M1.2 t a q2).trans (e2 t a q1))
  have s2 : (thr w2 0).1 874 0 = w.1 874 0 := (e2 874 0 (by omega)).trans (e1 874 0 (fun q => by unfold kC lC at q; omega) (fun q => by unfold aP lP at q; omega))
  have u2 : (thr w2 0).1 890 0 = w.1 890 0 := (e2 890 0 (by omega)).trans (e1 890 0 (fun q => by unfold kC lC at q; omega) (fun q => by unfold aP lP at q; omega))
  have f12 : w2.1 12 0 = w.1 12 0 := e1 12 0 (fun q => by unfold kC lC at q; omega) (fun q => by unfold aP lP at q; omega)
  have E : eqO jB w w4 := by
    refine ⟨A2.1.trans (M1.1.trans (A1.1.trans K.1)), fun t a q => ?_⟩
    unfold jB at q
    have nw8 := hX.2.1
    rw [e3 t a (by omega) (by unfold mK; omega) (by unfold mP; omega), e1 t a (by unfold kC lC; omega) (by unfold aP lP; omega)]
  have l4 : ∀ t a, (t = 7 ∨ (553 ≤ t ∧ t ≤ 562)) → w4.1 t a = w2.1 t a := fun t a ht => e3 t a (by omega) (by unfold mK; omega) (by unfold mP; omega)
  have l2 : ∀ t a, (t = 7 ∨ (553 ≤ t ∧ t ≤ 562)) → a ≠ 0 → w2.1 t a = w1.1 t a := fun t a ht ha => A1.2 t a (by unfold aP lP; omega)
  refine Inv_act hI ⟨f, C, N, h, d', NW_act hW E hS hl (LR_eq hL (fun t ht => l4 t 0 ht)) ?_⟩ E (fun k hk => ?_)
  · refine HR_keep hX (LR_eq KL (fun t ht => ?_)) hW.1.2.1 (fun a a1 a2 a3 t ht => ?_) ?_ ?_ ?_ ?_ hS
    · rw [l4 t _ ht, l2 t _ ht (by omega)]
    · rw [l4 t a ht, l2 t a ht (by omega), K.2 t a (by unfold kC lC; omega)]
    · rw [h12 24 (Or.inr rfl), M3]
    · rw [e3 5 0 (by omega) (by unfold mK; omega) (by unfold mP; omega), A1.2 5 0 (by unfold aP lP; omega), K2]
    · rw [e3 5 0 (by omega) (by unfold mK; omega) (by unfold mP; omega), A1.2 5 0 (by unfold aP lP; omega), K1]
    · rw [A2.2 890 0 (by unfold mP; omega), M4, s2, u2]
  · rw [h12 k (Or.inl hk), M2 k (by unfold k12 at hk; omega), thr_k (by unfold k12 at hk; omega), f12]
theorem wyT_0 {S : Nat → Int32} {c n k : Nat} : wyT S c n k ≤ 0 ↔ wyT S c n k = 0 := by
  unfold wyT
  repeat' split
  all_goals decide
theorem wyF_0 {S : Nat → Int32} {n : Int32} : wyF S n ≤ 0 ↔ wyF S n = 0 := by
  unfold wyF
  repeat' split
  all_goals decide
theorem op_tell (hI : Inv w) (x y : Int32) : Op w (nc_Call m_X11_tell [cO, .inl x, .inl y]) (nc_Call m_X12_tell [mO, .inl x, .inl y]) := by
  have hI0 := hI
  obtain ⟨⟨f, C, N, h, d, hW⟩, -⟩ := hI
  have hW' := hW
  obtain ⟨⟨x1, x2, x3, x4, x5, x6⟩, x7⟩ := hW'
  have hC : C ≤ 8 := x3.1.2.2.2.2.2.1
  have hN : N ≤ 10 := x3.1.2.2.2.2.2.2.1
  have e3 : w.1 2 0 3 = nI N := x3.2.1.2.2.1
  have e2 : w.1 2 0 2 = nI C := x3.2.1.2.1
  by_cases b : rng x C
  · by_cases b2 : rng y N
    · obtain ⟨c, c1, rfl⟩ := b
      obtain ⟨n, n1, rfl⟩ := b2
      obtain ⟨k, k1, k2⟩ := x2.2.2.2 c c1
      have p := pow_N hN
      have cw : nc_Call m_X11_why [cO, .inl (nI c), .inl (nI n)] w = some (some (.inl (wyT (w.1 874 0) c n k)), w) := by
        rw [qc_X11_why, sc_isCow_t e2 (by omega) ⟨c, c1, rfl⟩, nc_bI_v, if_neg (by decide), sc_isNews_t e3 (by omega) ⟨n, n1, rfl⟩, nc_bI_v, if_neg (by decide), sl_whyNotTold (a := 0) w x3 x5.1.1 (by omega) (by omega) k2, nc_bI_v]
      have mw : ∀ v : nc_H, v.1 874 0 = w.1 874 0 → nc_Call m_X12_isCow [mO, .inl (nI c)] v = some (some (.inl 1), v) ∧ nc_Call m_X12_isNews [mO, .inl (nI n)] v = some (some (.inl 1), v) ∧ nc_Call m_X12_whyTell [mO, .inl (nI c), .inl (nI n)] v = some (some (.inl (wyT (w.1 874 0) c n k)), v) := by
        intro v hv
        refine ⟨mm_isCow_t (by rw [hv]; exact x3.1.2.1) (by omega) ⟨c, c1, rfl⟩, mm_isNews_t (by rw [hv]; exact x3.1.2.2.1) (by omega) ⟨n, n1, rfl⟩, ?_⟩
        rw [sm_whyTell v (by omega) (show k < 1024 by omega) (by rw [hv]; exact k2), hv]
      by_cases z : wyT (w.1 874 0) c n k = 0
      · obtain ⟨u, nw, w1, y1, y2, y3, y4, y5, y6, y7, y8⟩ := keep2 hW
        obtain ⟨w2, z1, z2, z3⟩ := sl_hearK (a := 0) y6 y5.1 (dOK_of x2) x1.2.2.1 c1 n1
        have s2 : (thr w2 0).1 874 0 = w.1 874 0 := by
          rw [thr_874, z2.2 874 0 (fun q => by unfold lQ at q; omega), y3.2 874 0 (fun q => by unfold kC lC at q; omega)]
        have f24 : (thr w2 0).1 12 0 24 = nI u := by
          rw [thr_k (by decide), z2.2 12 0 (fun q => by unfold lQ at q; omega), y3.2 12 0 (fun q => by unfold kC lC at q; omega)]
          exact y1.2.2.1
        obtain ⟨w3, v1, v2, v3, v4, v5⟩ := sm_keep (w := thr w2 0) y1.1 f24
        have s3 : w3.1 874 0 = w.1 874 0 := (v2.2 874 0 (fun q => by unfold mK at q; omega)).trans s2
        have s4 : (row w3 874 0 (tellS (w3.1 874 0) c n)).1 874 0 = tellS (w.1 874 0) c n := by rw [row_s, s3]
        obtain ⟨m1, m2, m3⟩ := mw (thr w2 0) s2
        refine ⟨0, w2, row w3 874 0 (tellS (w3.1 874 0) c n), ?_, ?_, ?_⟩
        · rw [qc_X11_tell, cw, nc_bI_v, if_neg (fun q => q z), y2, nc_bV_v, z1, nc_bV_v, z]
        · rw [qc_X12_tell, nc_lt_v, thr_si, m1, nc_bI_v, if_neg (by decide), m2, nc_bI_v, if_pos (by decide), m3, nc_bI_v, if_pos (wyT_0.mpr z), v1, nc_bV_v, sm_tells w3 (by omega) (by omega), nc_bV_v]
        · refine act_end (d' := d) hI0 hW y1 y3 y4 y7 y8 (z2.mono (fun t a q => Or.inl ⟨q.1, by have := q.2; omega⟩)) v2 v3 v4 v5 (eqO.rf.row ⟨rfl, by omega⟩) (fun j _ => by rw [row_t (by decide)]) (fun j hj => ?_) ?_ ?_
          · rw [s4, tellS_o (by omega) (by omega) (by omega)]
          · rw [s4]
            exact lok_tell x2 hC hN c1 n1
          · rw [s4]
            exact ⟨z3, LG_eq y5.2 z2 (fun j hj => tellS_o (by omega) (by omega) (by omega))⟩
      · obtain ⟨m1, m2, m3⟩ := mw (thr w 0) (by rw [thr_874])
        refine rd hI0 ⟨wyT (w.1 874 0) c n k, ?_, ?_⟩
        · rw [qc_X11_tell, cw, nc_bI_v, if_pos z]
        · rw [qc_X12_tell, nc_lt_v, thr_si, m1, nc_bI_v, if_neg (by decide), m2, nc_bI_v, if_pos (by decide), m3, nc_bI_v, if_neg (fun q => z (wyT_0.mp q))]
    · refine rd hI0 ⟨-1, ?_, ?_⟩
      · rw [qc_X11_tell, qc_X11_why, sc_isCow_t e2 (by omega) b, nc_bI_v, if_neg (by decide), sc_isNews_f e3 (by omega) b2, nc_bI_v, if_pos rfl, nc_bI_v, if_pos (by decide)]
      · rw [qc_X12_tell, nc_lt_v, thr_si, mm_isCow_t (by rw [thr_874]; exact x3.1.2.1) (by omega) b, nc_bI_v, if_neg (by decide), mm_isNews_f (by rw [thr_874]; exact x3.1.2.2.1) (by omega) b2, nc_bI_v, if_neg (fun q => q rfl)]
  · refine rd hI0 ⟨-1, ?_, ?_⟩
    · rw [qc_X11_tell, qc_X11_why, sc_isCow_f e2 (by omega) b, nc_bI_v, if_pos rfl, nc_bI_v, if_pos (by decide)]
    · rw [qc_X12_tell, nc_lt_v, thr_si, mm_isCow_f (by rw [thr_874]; exact x3.1.2.1) (by omega) b, nc_bI_v, if_pos rfl]
theorem findS_ag {S : Nat → Int32} {n : Nat} (hC : C ≤ 8) {k : Nat} (hk : k < 76 ∨ 332 ≤ k) : findS S C n k = S k := findS_o (by omega)
theorem op_find (hI : Inv w) (x : Int32) : Op w (nc_Call m_X11_find [cO, .inl x]) (nc_Call m_X12_find [mO, .inl x]) := by
  have hI0 := hI
  obtain ⟨⟨f, C, N, h, d, hW⟩, -⟩ := hI
  have hW' := hW
  obtain ⟨⟨x1, x2, x3, x4, x5, x6⟩, x7⟩ := hW'
  have hC : C ≤ 8 := x3.1.2.2.2.2.2.1
  have hN : N ≤ 10 := x3.1.2.2.2.2.2.2.1
  have e3 : w.1 2 0 3 = nI N := x3.2.1.2.2.1
  by_cases b : rng x N
  · have b' := b
    obtain ⟨n, n1, rfl⟩ := b'
    by_cases z : wyF (w.1 874 0) (nI n) = 0
    · obtain ⟨u, nw, w1, y1, y2, y3, y4, y5, y6, y7, y8⟩ := keep2 hW
      obtain ⟨w2, z1, z2, z3⟩ := sl_findOut (a := 0) y6 y5.1 n1
      have s2 : (thr w2 0).1 874 0 = w.1 874 0 := by
        rw [thr_874, z2.2 874 0 (fun q => by unfold lQ at q; omega), y3.2 874 0 (fun q => by unfold kC lC at q; omega)]
      have f24 : (thr w2 0).1 12 0 24 = nI u := by
        rw [thr_k (by decide), z2.2 12 0 (fun q => by unfold lQ at q; omega), y3.2 12 0 (fun q => by unfold kC lC at q; omega)]
        exact y1.2.2.1
      obtain ⟨w3, v1, v2, v3, v4, v5⟩ := sm_keep (w := thr w2 0) y1.1 f24
      have s3 : w3.1 874 0 = w.1 874 0 := (v2.2 874 0 (fun q => by unfold mK at q; omega)).trans s2
      have s4 : (row w3 874 0 (findS (w3.1 874 0) C n)).1 874 0 = findS (w.1 874 0) C n := by rw [row_s, s3]
      refine ⟨0, w2, row w3 874 0 (findS (w3.1 874 0) C n), ?_, ?_, ?_⟩
      · rw [qc_X11_find, sc_isNews_t e3 (by omega) b, nc_bI_v, if_pos (by decide), sl_whyNotFound (a := 0) _ w x3 x5.1.1, nc_bI_v, if_neg (fun q => q z), y2, nc_bV_v, z1, nc_bV_v, z]
      · rw [qc_X12_find, nc_lt_v, thr_si, mm_isNews_t (by rw [s2]; exact x3.1.2.2.1) (by omega) b, nc_bI_v, if_pos (by decide), sm_whyFind, nc_bI_v, s2, if_pos (wyF_0.mpr z), v1, nc_bV_v, sm_finds (w := w3) (by rw [s3]; exact x3.1) n1, nc_bV_v]
      · refine act_end (d' := d) hI0 hW y1 y3 y4 y7 y8 (z2.mono (fun t a q => Or.inl ⟨q.1, by have := q.2; omega⟩)) v2 v3 v4 v5 (eqO.rf.row ⟨rfl, by omega⟩) (fun j _ => by rw [row_t (by decide)]) (fun j hj => ?_) ?_ ?_
        · rw [s4, findS_ag hC hj]
        · rw [s4]
          exact lok_find x2 hC
        · rw [s4]
          exact ⟨z3, LG_eq y5.2 z2 (fun j hj => findS_o (by omega))⟩
    · refine rd hI0 ⟨wyF (w.1 874 0) (nI n), ?_, ?_⟩
      · rw [qc_X11_find, sc_isNews_t e3 (by omega) b, nc_bI_v, if_pos (by decide), sl_whyNotFound (a := 0) _ w x3 x5.1.1, nc_bI_v, if_pos z]
      · rw [qc_X12_find, nc_lt_v, thr_si, mm_isNews_t (by rw [thr_874]; exact x3.1.2.2.1) (by omega) b, nc_bI_v, if_pos (by decide), sm_whyFind, nc_bI_v, thr_874, if_neg (fun q => z (wyF_0.mp q))]
  · refine rd hI0 ⟨-1, ?_, ?_⟩
    · rw [qc_X11_find, sc_isNews_f e3 (by omega) b, nc_bI_v, if_neg (fun q => q rfl)]
    · rw [qc_X12_find, nc_lt_v, thr_si, mm_isNews_f (by rw [thr_874]; exact x3.1.2.2.1) (by omega) b, nc_bI_v, if_neg (fun q => q rfl)]
theorem lit_1n {x : Int32} {n : Nat} (hn : n < 2 ^ 30) : (∃ k, 1 ≤ k ∧ k ≤ n ∧ x = nI k) ∨ (x < 1 ∨ ¬ x ≤ nI n) := by
  rcases pk_ix x (n := n + 1) (by omega) with q | q | ⟨j, j1, j2⟩
  · exact Or.inr (Or.inl (Int32.lt_of_lt_of_le q (by decide)))
  · refine Or.inr (Or.inr (fun z => ?_))
    have := Int32.le_trans q z
    rw [nI_leI (by omega) (by omega)] at this
    omega
  · by_cases j0 : j = 0
    · subst j0
      exact Or.inr (Or.inl (by rw [j2]; decide))
    · exact Or.inl ⟨j, by omega, by omega, j2⟩
theorem op_days (hI : Inv w) (x : Int32) : Op w (nc_Call m_X11_days [cO, .inl x]) (nc_Call m_X12_days [mO, .inl x]) := by
  have hI0 := hI
  obtain ⟨⟨f, C, N, h, d, hW⟩, -⟩ := hI
  have hW' := hW
  obtain ⟨⟨x1, x2, x3, x4, x5, x6⟩, x7⟩ := hW'
  have hf : f ≤ 4 := x3.1.2.2.2.2.1
  have hC : C ≤ 8 := x3.1.2.2.2.2.2.1
  have hN : N ≤ 10 := x3.1.2.2.2.2.2.2.1
  have hd4 := x2.2.1
  have e7 : w.1 7 0 1 = nI d := x5.1.1.1.1.trans x2.1
  rcases lit_1n (x := x) (n := 60) (by decide) with ⟨n, n1, n2, rfl⟩ | b
  · have g1 : ¬ nI n < 1 := by rw [show (1 : Int32) = nI 1 from rfl, nI_ltI (by omega) (by omega)]; omega
    have g2 : nI n ≤ 60 := nI_le n2 (by decide)
    by_cases z : d = 400
    · obtain ⟨w1, a1, a2, a3⟩ := sl_goDays (a := 0) (n := n) x3 x5 x1 x2 (by omega)
      have e0 : min n (400 - d) = 0 := by omega
      rw [e0] at a1 a3
      have m76 : (thr w1 0).1 874 0 76 = 400 := by
        rw [thr_874, a2.2 874 0 (by unfold lP; omega), x2.1, z]
        rfl
      refine ⟨0, w1, thr w1 0, ?_, ?_, ?_⟩
      · rw [qc_X11_days, if_neg g1, if_pos g2, e7, if_pos ((lit400 (by omega)).mpr (by omega)), a1, nc_bI_v]
        rfl
      · rw [qc_X12_days, nc_lt_v, thr_si, sm_isIn, nc_bI_v, tI_t ⟨Int32.not_lt.mp g1, g2⟩, if_pos (by decide), m76, if_neg (fun q => q rfl)]
      · refine Inv_thr (Inv_act hI0 ⟨f, C, N, h, d, NW_act hW (a2.mono (fun t a q => Or.inr ⟨q.2, by have := q.1; omega⟩)) (fun j _ => by rw [a2.2 874 0 (by unfold lP; omega)]) ?_ ?_ ?_⟩ (a2.mono (fun t a q => Or.inr ⟨q.2, by have := q.1; omega⟩)) (fun j _ => by rw [a2.2 12 0 (by unfold lP; omega)]))
        · rw [a2.2 874 0 (by unfold lP; omega)]
          exact x2
        · rw [a2.2 874 0 (by unfold lP; omega)]
          exact a3
        · rw [a2.2 874 0 (by unfold lP; omega)]
          exact HR_eq x7 (by rw [a2.2 12 0 (by unfold lP; omega)]) (a2.2 5 0 (by unfold lP; omega)) (a2.2 890 0 (by unfold lP; omega)) (fun t a ht h2 h9 => a2.2 t a (by unfold lP; omega))
    · obtain ⟨u, nw, w1, y1, y2, y3, y4, y5, y6, y7, y8⟩ := keep2 hW
      obtain ⟨w2, z1, z2, z3⟩ := sl_goDays (a := 0) (n := n) y6 y5 x1 x2 (by omega)
      have s2 : (thr w2 0).1 874 0 = w.1 874 0 := by
        rw [thr_874, z2.2 874 0 (fun q => by unfold lP at q; omega), y3.2 874 0 (fun q => by unfold kC lC at q; omega)]
      have f24 : (thr w2 0).1 12 0 24 = nI u := by
        rw [thr_k (by decide), z2.2 12 0 (fun q => by unfold lP at q; omega), y3.2 12 0 (fun q => by unfold kC lC at q; omega)]
        exact y1.2.2.1
      obtain ⟨w3, v1, v2, v3, v4, v5⟩ := sm_keep (w := thr w2 0) y1.1 f24
      have s3 : w3.1 874 0 = w.1 874 0 := (v2.2 874 0 (fun q => by unfold mK at q; omega)).trans s2
      obtain ⟨w4, p1, p2, p3⟩ := sm_goesOn (w := w3) (n := n) s3 x1 x2 (by omega)
      have m76 : (thr w2 0).1 874 0 76 ≠ 400 := by
        rw [s2, x2.1]
        intro q
        exact z ((nI_eq (by omega) (by omega)).mp (q.trans (show (400 : Int32) = nI 400 from rfl)))
      refine ⟨nI (min n (400 - d)), w2, w4, ?_, ?_, ?_⟩
      · rw [qc_X11_days, if_neg g1, if_pos g2, e7, if_neg (fun q => by rw [lit400 (by omega)] at q; omega), y2, nc_bV_v, z1, nc_bI_v]
      · rw [qc_X12_days, nc_lt_v, thr_si, sm_isIn, nc_bI_v, tI_t ⟨Int32.not_lt.mp g1, g2⟩, if_pos (by decide), if_pos m76, v1, nc_bV_v, p1, nc_bI_v]
      · refine act_end (d' := d + min n (400 - d)) hI0 hW y1 y3 y4 y7 y8 (z2.mono (fun t a q => Or.inl q)) v2 v3 v4 v5 (p2.mono (fun t a q => ⟨q.1, by have := q.2; omega⟩)) (fun j _ => by rw [p2.2 12 0 (by unfold mD; omega)]) (fun j hj => ?_) ?_ ?_
        · rw [p3]
          rcases hj with hj | hj
          · exact dayN_lo x1 hj _
          · exact dayN_hi x1 hj _
        · rw [p3]
          exact dayN_lok x1 x2 _ (by omega)
        · rw [p3]
          exact z3
  · refine rd hI0 ⟨-1, ?_, ?_⟩
    · rw [qc_X11_days]
      by_cases b1 : x < 1
      · rw [if_pos b1]
      · rw [if_neg b1, if_neg (show ¬ x ≤ (60 : Int32) from b.elim (fun q => absurd q b1) id)]
    · rw [qc_X12_days, nc_lt_v, thr_si, sm_isIn, nc_bI_v, tI_f (fun q => b.elim (fun z => absurd q.1 (Int32.not_le.mpr z)) (fun z => z q.2)), if_neg (fun q => q rfl)]
end AC
