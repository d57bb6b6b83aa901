/-! best, honest, least. -/
section BH
variable {w w' v : nc_H} {f C N h d c k al so : Nat} {S : Nat → Int32}
theorem Inv_ch (hI : Inv w) (E : eqO (fun t a => a = 0 ∧ (t = 1 ∨ t = 10 ∨ t = 12 ∨ t = 166 ∨ t = 167 ∨ t = 902)) w w') (hC : CH w') (hT : TP w') (h12 : ∀ k, k = 24 ∨ k = 28 ∨ k = 29 ∨ k = 30 ∨ k = 38 → w'.1 12 0 k = w.1 12 0 k) : Inv w' := by
  obtain ⟨a1, a2, a3, a4, a5, a6, a7, a8⟩ := hI
  have e : ∀ t, t = 0 ∨ t = 8 ∨ t = 11 ∨ t = 616 ∨ t = 740 ∨ t = 869 ∨ t = 895 ∨ t = 905 → w'.1 t 0 = w.1 t 0 := fun t ht => E.2 t 0 (by omega)
  have B := Inv_big (w' := w') ⟨a1, a2⟩ (fun t a ht => E.2 t a (by unfold sD sL sS sM at ht; omega)) (fun _ _ _ => by rw [E.1]) (h12 24 (by omega))
  exact ⟨B.1, B.2, hC, PL_eq a4 (h12 28 (by omega)) (e 8 (by omega)) (e 616 (by omega)) (e 895 (by omega)), PT_eq a5 (fun k hk => h12 k (by omega)) (e 11 (by omega)), hT, BK_eq a7 (h12 38 (by omega)) (e 0 (by omega)) (e 905 (by omega)), TW_eq a8 (by rw [E.1]) (by rw [E.1])⟩
theorem sc_can_t {x : Int32} (e2 : w.1 2 0 2 = nI C) (hC : C ≤ 8) (h : rng x C) (hd : ¬ bq (w.1 7 0 3) x) : nc_Call m_X11_canBeTold [cO, .inl x] w = some (some (.inl 1), w) := by
  rw [qc_X11_canBeTold, sc_isCow_t e2 (by omega) h, nc_bI_v, if_neg (by decide), sl_isDry, nc_bI_v, if_neg (fun q => q (tI_eq0.mpr hd))]
theorem sc_can_f {x : Int32} (e2 : w.1 2 0 2 = nI C) (hC : C ≤ 8) (h : ¬ (rng x C ∧ ¬ bq (w.1 7 0 3) x)) : nc_Call m_X11_canBeTold [cO, .inl x] w = some (some (.inl 0), w) := by
  rw [qc_X11_canBeTold]
  by_cases q : rng x C
  · rw [sc_isCow_t e2 (by omega) q, nc_bI_v, if_neg (by decide), sl_isDry, nc_bI_v, if_pos (tI_ne.mpr (Classical.byContradiction (fun z => h ⟨q, z⟩)))]
  · rw [sc_isCow_f e2 (by omega) q, nc_bI_v, if_pos rfl]
/-- news of no war -/
def pea (S : Nat → Int32) (N : Nat) : Int32 := it (fun n (x : Int32) => x ||| (if S (37 + n) ≠ 2 then bs n else 0)) 0 N 0
theorem bq_pea (hN : N ≤ 10) {n : Nat} (hn : n < 32) : bq (pea S N) (nI n) ↔ n < N ∧ S (37 + n) ≠ 2 := by
  unfold pea
  rw [it_bits (P := fun i => S (37 + i) ≠ 2) (N := N) (by omega) N 0 0 (by omega) n hn]
  exact ⟨fun q => q.elim (fun q => absurd q (bq_z hn)) (fun q => q.2), fun q => Or.inr ⟨by omega, q⟩⟩
theorem sm_peace (hs : shp (w.1 874 0) f C N h) : nc_Call m_X12_peace [mO] w = some (some (.inl (pea (w.1 874 0) N)), w) := by
  have h2 : w.1 874 0 2 = nI N := hs.2.2.1
  have hN : N ≤ 10 := hs.2.2.2.2.2.2.1
  rw [qc_X12_peace]
  have key := it_loop (R := fun i (x : Int32) => nc_Run m_X12_peace 4 [some mO, some (.inl x), some (.inl (nI i))] [] w) (st := fun n (x : Int32) => x ||| (if w.1 874 0 (37 + n) ≠ 2 then bs n else 0)) (I := fun _ _ => True) (n := N) (out := fun x => some (some (.inl x), w)) ?_ ?_ N 0 0 (by omega) trivial
  · exact key
  · intro i x hi _
    refine ⟨?_, trivial⟩
    show nc_Run m_X12_peace 4 _ _ w = nc_Run m_X12_peace 4 _ _ w
    rw [qr_X12_peace_4, h2, if_neg (nI_ge hi (by omega)), pl_37 (by omega)]
    by_cases q : w.1 874 0 (37 + i) = 2
    · rw [if_pos q, nc_li_v, nc_li_v, nI_1, if_neg (fun z => z q)]
    · rw [if_neg q, nc_li_v, nc_li_v, nI_1, if_pos q]
      rfl
  · intro x _
    show nc_Run m_X12_peace 4 _ _ w = _
    rw [qr_X12_peace_4, h2, if_pos (nI_le (Nat.le_refl _) (by omega))]
theorem allN : ∀ N, N ≤ 10 → ∀ n, n < 32 → (bq ((1 <<< (nI N &&& 31)) - 1) (nI n) ↔ n < N) := by decide +kernel
/-- the class's news that are free, of no war -/
theorem bq_fw (hN : N ≤ 10) {n : Nat} (hn : n < 32) {H : Int32} : bq ((((1 <<< (nI N &&& 31)) - 1) &&& (H ^^^ (-1))) &&& (wbs S N ^^^ (-1))) (nI n) ↔ bq (pea S N) (nI n) ∧ ¬ bq H (nI n) := by
  rw [bq_and hn, bq_and hn, bq_not hn, bq_not hn, bq_wbs hN hn, bq_pea hN hn, allN N hN n hn]
  exact ⟨fun q => ⟨⟨q.1.1, fun z => q.2 ⟨q.1.1, z⟩⟩, q.1.2⟩, fun q => ⟨⟨q.1.1, q.2⟩, fun z => q.1.2 z.2⟩⟩
/-- what a look at c gives -/
theorem look (hW : NW w f C N h d) (hc : c < C) (hd : ¬ bq (w.1 874 0 77) (nI c)) : ∃ k w', CX (w.1 874 0) f C N h d c k ∧ nc_Call m_X1_lookAt [hO, .inl (nI c)] w = some (none, w') ∧ eqO cQ w w' ∧ (∀ j, j < 4 ∨ 8 ≤ j → w'.1 1 0 j = w.1 1 0 j) ∧ CW w' (w.1 874 0) C N c k := by
  obtain ⟨⟨x1, x2, x3, x4, x5, x6⟩, x7⟩ := hW
  have hN : N ≤ 10 := x1.1.2.2.2.2.2.2.1
  have p := pow_N hN
  obtain ⟨k, ⟨k1, k3⟩, k2⟩ := x2.2.2.2 c hc
  obtain ⟨w', a1, a2, a3, a4⟩ := sh_lookAt (c := c) (k := k) x3 x5.1 x1.2.1 (dOK_of x2) hc (by omega) k2
  have e2 : w'.1 2 0 = w.1 2 0 := a2.2 2 0 (by unfold cQ; omega)
  exact ⟨k, w', ⟨x1, x2, hc, hd, k1, k3, k2⟩, a1, a2, a3, a4, by rw [e2]; exact x4.2.1, by rw [e2]; exact x3.2.1.2.2.2.2.2, by rw [e2]; exact x3.2.1.2.2.1⟩
theorem op_best (hI : Inv w) (x : Int32) : Op w (nc_Call m_X11_best [cO, .inl x]) (nc_Call m_X12_best [mO, .inl x]) := by
  have hI0 := hI
  obtain ⟨⟨f, C, N, h, d, hW⟩, hM, c3, c4, c5, c6, c7, c8⟩ := hI
  have hW' := hW
  obtain ⟨⟨x1, x2, x3, x4, x5, x6⟩, x7⟩ := hW'
  have hC : C ≤ 8 := x3.1.2.2.2.2.2.1
  have hN : N ≤ 10 := x3.1.2.2.2.2.2.2.1
  have e2 : w.1 2 0 2 = nI C := x3.2.1.2.1
  have e77 : w.1 7 0 3 = w.1 874 0 77 := x5.1.1.1.2.1
  have m2 : ∀ v : nc_H, v.1 874 0 = w.1 874 0 → v.1 874 0 1 = nI C := fun v hv => by rw [hv]; exact x3.1.2.1
  by_cases b : rng x C ∧ ¬ bq (w.1 7 0 3) x
  · have b1 := b.1
    have b2 := b.2
    obtain ⟨c, hc, rfl⟩ := b1
    rw [e77] at b2
    obtain ⟨k, w1, CX1, a1, a2, a3, CW1⟩ := look hW hc b2
    have s1 : w1.1 874 0 = w.1 874 0 := a2.2 874 0 (by unfold cQ; omega)
    have fw := CW1.1.1
    obtain ⟨r, r1, r2, r3, -⟩ := best_both (v := thr w1 0) (X := w1.1 1 0 4 &&& (w1.1 2 0 7 ^^^ (-1))) (Y := pea (w.1 874 0) N) CX1 CW1 (by rw [thr_874, s1]) (fun n hn q => ((bq_pea hN hn).mp q).1) (fun n hn => by rw [fw, CW1.2.1]; exact bq_fw hN hn)
    let w2 : nc_H := row w1 1 0 (upd (w1.1 1 0) 8 (nI r))
    have CW2 : CW w2 (w.1 874 0) C N c k := by
      obtain ⟨⟨l1, l2, l3, l4, l5⟩, l6, l7, l8⟩ := CW1
      have u : ∀ j, j ≠ 8 → w2.1 1 0 j = w1.1 1 0 j := fun j hj => by
        show (row _ 1 0 _).1 1 0 j = _
        rw [row_s, upd_n hj]
      have u2 : ∀ t, t ≠ 1 → w2.1 t = w1.1 t := fun t ht => row_t ht
      exact ⟨⟨by rw [u 4 (by decide)]; exact l1, by rw [u 5 (by decide)]; exact l2, by rw [u 6 (by decide)]; exact l3, by rw [u 7 (by decide)]; exact l4, by rw [u2 166 (by decide)]; exact l5⟩, by rw [u2 2 (by decide)]; exact l6, by rw [u2 2 (by decide)]; exact l7, by rw [u2 2 (by decide)]; exact l8⟩
    have s2 : (thr w2 0).1 874 0 = w.1 874 0 := by
      rw [thr_874]
      show (row _ 1 0 _).1 874 0 = _
      rw [row_t (by decide), s1]
    obtain ⟨r', -, -, q3, q4⟩ := best_both (v := thr w2 0) (X := w1.1 1 0 4 &&& (w1.1 2 0 7 ^^^ (-1))) (Y := pea (w.1 874 0) N) CX1 CW1 s2 (fun n hn q => ((bq_pea hN hn).mp q).1) (fun n hn => by rw [fw, CW1.2.1]; exact bq_fw hN hn)
    have rr : nI r' = nI r := by
      rw [r3] at q3
      simp only [Option.some.injEq, Prod.mk.injEq, Sum.inl.injEq, and_true] at q3
      exact q3.symm
    rw [rr] at q4
    let w3 : nc_H := row (thr w2 0) 12 0 (upd (upd ((thr w2 0).1 12 0) 26 1) 25 (nI r))
    have s3 : w3.1 874 0 = w.1 874 0 := by
      show (row _ 12 0 _).1 874 0 = _
      rw [row_t (by decide), s2]
    have g12 : ∀ j, j ≠ 0 → j ≠ 25 → j ≠ 26 → w3.1 12 0 j = w.1 12 0 j := fun j j0 j1 j2 => by
      show (row _ 12 0 _).1 12 0 j = _
      rw [row_s, upd_n j1, upd_n j2, thr_k j0]
      show (row _ 1 0 _).1 12 0 j = _
      rw [row_t (by decide), a2.2 12 0 (by unfold cQ; omega)]
    have g1 : ∀ j, w3.1 1 0 j = upd (w1.1 1 0) 8 (nI r) j := fun j => by
      show (row _ 12 0 _).1 1 0 j = _
      rw [row_t (by decide), thr_t (by decide)]
      show (row _ 1 0 _).1 1 0 j = _
      rw [row_s]
    have E : eqO (fun t a => a = 0 ∧ (t = 1 ∨ t = 10 ∨ t = 12 ∨ t = 166 ∨ t = 167 ∨ t = 902)) w w3 := (((a2.mono (fun t a q => ⟨q.1, by have := q.2; omega⟩)).row ⟨rfl, by omega⟩).row ⟨rfl, by omega⟩).row ⟨rfl, by omega⟩
    refine ⟨mwi (w.1 874 0) C N c (nI r), w2, w3, ?_, ?_, ?_⟩
    · rw [qc_X11_best, sc_can_t e2 hC b.1 b.2, nc_bI_v, if_neg (by decide), qc_X1_most, a1, nc_bV_v, r3, nc_bI_v, nc_lt_v, si_rw, row_s, upd_s]
      show nc_bI (nc_bI (nc_Call m_X1_milkBy [hO, .inl (nI r)] w2) _) _ = _
      rw [sh_milkBy CX1 CW2 r1 r2, nc_bI_v, nc_bI_v]
    · rw [qc_X12_best, nc_lt_v, thr_si, mm_isCow_t (m2 _ s2) (by omega) b.1, nc_bI_v, if_neg (by decide), sm_isDry, nc_bI_v, s2, if_pos (tI_eq0.mpr b2), sm_peace (by rw [s2]; exact x3.1), nc_bI_v, s2, q4, nc_bI_v, qc_X12_tellsSet, nc_lt_v, nc_lt_v, nc_bV_v, si_rw, si_rw, row_s, row_r]
      show nc_bI (nc_Call m_X12_milkWith [mO, .inl (nI c), .inl (nI r)] w3) _ = _
      rw [sm_milkWith w3 (by rw [s3]; exact x3.1) (by omega), nc_bI_v, s3]
    · refine Inv_ch hI0 E ⟨Or.inr ⟨?_, ?_⟩, ?_⟩ (TP_eq c6 (fun j hj => g12 j (by omega) (by omega) (by omega)) ?_ (E.2 740 0 (by omega)) (E.2 869 0 (by omega))) (fun j hj => g12 j (by omega) (by omega) (by omega))
      · show (row _ 12 0 _).1 12 0 26 = _
        rw [row_s, upd_n (by decide), upd_s]
      · rw [g1, upd_s]
        show _ = (row _ 12 0 _).1 12 0 25
        rw [row_s, upd_s]
      · rw [g1, g1, upd_n (by decide), upd_n (by decide), a3 9 (by omega), a3 10 (by omega), g12 31 (by decide) (by decide) (by decide), g12 32 (by decide) (by decide) (by decide), g12 33 (by decide) (by decide) (by decide)]
        exact c3.2
      · show (row _ 12 0 _).1 10 0 = _
        rw [row_t (by decide), thr_t (by decide)]
        show (row _ 1 0 _).1 10 0 = _
        rw [row_t (by decide), a2.2 10 0 (by unfold cQ; omega)]
  · refine rd hI0 ⟨-1, ?_, ?_⟩
    · rw [qc_X11_best, sc_can_f e2 hC b, nc_bI_v, if_pos rfl]
    · rw [qc_X12_best, nc_lt_v, thr_si]
      by_cases q : rng x C
      · rw [mm_isCow_t (m2 _ (by rw [thr_874])) (by omega) q, nc_bI_v, if_neg (by decide), sm_isDry, nc_bI_v, thr_874, if_neg (tI_ne.mpr (Classical.byContradiction (fun z => b ⟨q, by rw [e77]; exact z⟩)))]
      · rw [mm_isCow_f (m2 _ (by rw [thr_874])) (by omega) q, nc_bI_v, if_pos rfl]
theorem op_honest (hI : Inv w) (x : Int32) : Op w (nc_Call m_X11_honest [cO, .inl x]) (nc_Call m_X12_honest [mO, .inl x]) := by
  have hI0 := hI
  obtain ⟨⟨f, C, N, h, d, hW⟩, hM, c3, c4, c5, c6, c7, c8⟩ := hI
  have hW' := hW
  obtain ⟨⟨x1, x2, x3, x4, x5, x6⟩, x7⟩ := hW'
  have hC : C ≤ 8 := x3.1.2.2.2.2.2.1
  have hN : N ≤ 10 := x3.1.2.2.2.2.2.2.1
  have e2 : w.1 2 0 2 = nI C := x3.2.1.2.1
  have e77 : w.1 7 0 3 = w.1 874 0 77 := x5.1.1.1.2.1
  have m2 : ∀ v : nc_H, v.1 874 0 = w.1 874 0 → v.1 874 0 1 = nI C := fun v hv => by rw [hv]; exact x3.1.2.1
  by_cases b : rng x C ∧ ¬ bq (w.1 7 0 3) x
  · have b1 := b.1
    have b2 := b.2
    obtain ⟨c, hc, rfl⟩ := b1
    rw [e77] at b2
    obtain ⟨k, w1, CX1, a1, a2, a3, CW1⟩ := look hW hc b2
    have s1 : (thr w1 0).1 874 0 = w.1 874 0 := by rw [thr_874]; exact a2.2 874 0 (by unfold cQ; omega)
    have fw := CW1.1.1
    obtain ⟨r, r1, r2, r3, r4⟩ := best_both (v := thr w1 0) (X := (w1.1 1 0 4 &&& (w1.1 2 0 7 ^^^ (-1))) &&& (w1.1 2 0 6 ^^^ (-1))) (Y := pea (w.1 874 0) N &&& (w.1 874 0 57 ^^^ (-1))) CX1 CW1 s1 (fun n hn q => ((bq_pea hN hn).mp ((bq_and hn).mp q).1).1) (fun n hn => by
      rw [fw, CW1.2.1, CW1.2.2.1, bq_and hn, bq_fw hN hn, bq_and hn]
      exact ⟨fun q => ⟨⟨q.1.1, q.2⟩, q.1.2⟩, fun q => ⟨⟨q.1.1, q.2⟩, q.1.2⟩⟩)
    have g12 : ∀ j, j ≠ 0 → (thr w1 0).1 12 0 j = w.1 12 0 j := fun j j0 => by rw [thr_k j0, a2.2 12 0 (by unfold cQ; omega)]
    have E : eqO (fun t a => a = 0 ∧ (t = 1 ∨ t = 10 ∨ t = 12 ∨ t = 166 ∨ t = 167 ∨ t = 902)) w (thr w1 0) := (a2.mono (fun t a q => ⟨q.1, by have := q.2; omega⟩)).row ⟨rfl, by omega⟩
    refine ⟨mwi (w.1 874 0) C N c (nI r), w1, thr w1 0, ?_, ?_, ?_⟩
    · rw [qc_X11_honest, sc_can_t e2 hC b.1 b.2, nc_bI_v, if_neg (by decide), qc_X1_mostWithoutLies, a1, nc_bV_v, r3, nc_bI_v, sh_milkBy CX1 CW1 r1 r2, nc_bI_v, nc_bI_v]
    · rw [qc_X12_honest, nc_lt_v, thr_si, mm_isCow_t (m2 _ s1) (by omega) b.1, nc_bI_v, if_neg (by decide), sm_isDry, nc_bI_v, s1, if_neg (fun q => q (tI_eq0.mpr b2)), sm_peace (by rw [s1]; exact x3.1), nc_bI_v, s1, r4, nc_bI_v, sm_milkWith _ (by rw [s1]; exact x3.1) (by omega), nc_bI_v, s1]
    · refine Inv_ch hI0 E ?_ (TP_eq c6 (fun j hj => g12 j (by omega)) ?_ (E.2 740 0 (by omega)) (E.2 869 0 (by omega))) (fun j hj => g12 j (by omega))
      · unfold CH
        rw [g12 25 (by decide), g12 26 (by decide), g12 31 (by decide), g12 32 (by decide), g12 33 (by decide), thr_t (show (1 : Nat) ≠ 12 by decide), a3 8 (by omega), a3 9 (by omega), a3 10 (by omega)]
        exact c3
      · rw [thr_t (by decide), a2.2 10 0 (by unfold cQ; omega)]
  · refine rd hI0 ⟨-1, ?_, ?_⟩
    · rw [qc_X11_honest, sc_can_f e2 hC b, nc_bI_v, if_pos rfl]
    · rw [qc_X12_honest, nc_lt_v, thr_si]
      by_cases q : rng x C
      · rw [mm_isCow_t (m2 _ (by rw [thr_874])) (by omega) q, nc_bI_v, if_neg (by decide), sm_isDry, nc_bI_v, thr_874, if_pos (tI_ne.mpr (Classical.byContradiction (fun z => b ⟨q, by rw [e77]; exact z⟩)))]
      · rw [mm_isCow_f (m2 _ (by rw [thr_874])) (by omega) q, nc_bI_v, if_pos rfl]
end BH
