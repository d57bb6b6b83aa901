/-! The lines of a book, kind by kind. -/
section BM
variable {w w' v v' : nc_H} {b : Nat → Nat} {sz lim n i : Nat} {t : Tok} {f C N m : Nat}
theorem x3m {m : Nat} : (3 : Int32) * nI m = nI (3 * m) := by
  rw [show (3 : Int32) = nI 3 from rfl, pk_mul]
theorem lt40 {m : Nat} (hm : m ≤ 40) : (nI m < (40 : Int32)) ↔ m < 40 := nI_litlt (c := m) (n := 40) (by omega) (by omega)
theorem ne40 {m : Nat} (hm : m ≤ 40) : (nI m ≠ (40 : Int32)) ↔ m ≠ 40 := not_congr (nI_lit (by omega) 40 (by decide))
theorem lb_full (P : Pb w v b sz lim n i t f C N m) (A : Option nc_R) (hA : A = nc_bI (nc_Call m_X10_fail [tO, .inl 4] w) fun r13 w12 => nc_z r13 <| some (some (.inl r13), w12)) {v0 : nc_H} (hv : mZ v v0) (hw : mW v v0) (hL : nc_Call m_X12_bookLine [mO] v = nc_bI (nc_Call m_X12_bad [mO, .inl 4] v0) fun r2 w1 => nc_z r2 <| some (some (.inl r2), w1)) : LB w v A b sz lim n i C N m := by
  obtain ⟨p1, p2, p3, p4, p5, p6, p7, p8, p9, p10, p11⟩ := P
  obtain ⟨w2, v2, a1, a2, a3, a4, a5⟩ := jt_fail (w := w) (v := v0) (t := t) 4 p3.1 (MT_z p6 hv).2.1
  refine ⟨0, w2, v2, ?_, ⟨0, v2, ?_, Or.inl ⟨rfl, rfl, rfl⟩⟩, a3.cK, hw.tr a4.mW, Or.inl ⟨rfl, a5⟩⟩
  · rw [hA, a1, nc_bI_v, nc_z_0]
  · rw [hL, a2, nc_bI_v, nc_z_0]
theorem bl_found (P : Pb w v b sz lim n i t f C N m) (hq : wq t = 10) : LB w v (nc_Call m_X0_readLine [.inr (.inr (0, 0)), tO, .inr (.inr (2, 0))] w) b sz lim n i C N m := by
  have P0 := P
  obtain ⟨p1, p2, p3, p4, p5, p6, p7, p8, ⟨q1, q2, q3, q4⟩, p10, p11⟩ := P
  have hC8 := p8.2.2.1
  have hN10 := p8.2.2.2.1
  have hc : nc_Call m_X0_readLine [.inr (.inr (0, 0)), tO, .inr (.inr (2, 0))] w = nc_Run m_X0_readLine 21 [some (.inr (.inr (0, 0))), some tO, some (.inr (.inr (2, 0))), some (.inl 10), none, none, none] [] w := by
    rw [qc_X0_readLine, sa_word p3 p11, nc_bI_v, wqy t (j := 10) (by decide) hq, if_pos (show nI 10 = (10 : Int32) from rfl)]
    rfl
  have hm : nc_Call m_X12_bookLine [mO] v = nc_Run m_X12_bookLine 47 [some mO, some (.inl (nI (3 * m))), some (.inl 1), some (.inl 0)] [] v := by
    rw [qc_X12_bookLine, nc_li_v, q3, x3m, wl_10, sm_wq (by decide) p6 p11, nc_bI_v, wl_11, sm_wq (by decide) p6 p11, nc_bI_v, tI_t hq, tI_f (by omega), if_pos (by decide)]
  by_cases hm4 : m = 40
  · refine lb_full P0 _ ?_ mZ.rf mW.rf ?_
    · rw [hc, qr_X0_readLine_21, q1, if_neg (fun z => by have := (lt40 q2).mp z; omega)]
    · rw [hm, qr_X12_bookLine_47, q3, if_neg (fun z => (ne40 q2).mp z hm4)]
  · have hm' : m < 40 := by omega
    obtain ⟨v1, g0, g1, g2, g3, g4, g5, g6⟩ := sm_84 (i := i) (m := m) (x := 1) (y := 0) (za := 1) p5 (p10 ▸ p6) p7 hm'
    have J1 : Jt w v1 b sz lim n (i + 1) := ⟨p1, p2, g2, g3, p4, g4⟩
    have NS1 : NS w v1 f C N := NS_z p8 rfl (g1.1 877 0 (by omega)).2 (g1.1 874 0 (by omega)).1
    have hm2 := hm
    rw [qr_X12_bookLine_47, q3, if_pos ((ne40 q2).mpr hm4), if_neg (by decide), g0] at hm2
    rw [if_pos rfl, if_pos (by decide), NS1.2.2.2.2.2.2] at hm2
    obtain ⟨w2, c1, c2, c3⟩ := jt_named (dn := 0) (B := 0) (fs := 12) (sl := 10) (mn := N) J1 NS1.1 NS1.2.1 NS1.2.2.1 NS1.2.2.2.1 (by decide) (srt_n NS1.2.1 NS1.2.2.1 NS1.2.2.2.1)
    have hc2 := hc
    rw [qr_X0_readLine_21, q1, if_pos ((lt40 q2).mpr hm'), qc_X0_readArg, if_pos (by decide), c1, nc_bV_v] at hc2
    rcases c3 with ⟨g, v2, h1, h2, h3, h4, h5, h6⟩ | ⟨w3, v3, h1, h2, h3, h4, h5⟩
    · have h2' : nc_Call m_X2_named [.inr (.inr (2, 0)), tO, .inl 12, .inl 10] w2 = some (some (.inl (nI g)), w2) := h2
      have h3' : nc_Call m_X12_takesName [mO, .inl 12, .inl (nI N)] v1 = some (some (.inl 1), v2) := h3
      rw [h2', nc_bI_v, nc_bI_v, if_neg (nI_pos (by omega))] at hc2
      rw [h3', nc_bI_v, if_pos (by decide), i2_135 hm', nc_lt_v, h5] at hm2
      have J3 : Jt w2 (nc_si v2 876 0 (3 * m + 2) (nI g)) b sz lim n (i + 1 + 1) := Jt_z h6 cZ.rf (mZ.rf.si ⟨by decide, by decide⟩)
      obtain ⟨r, w4, v4, d1, d2, d3, d4, d5⟩ := bt_tail J3 (by rw [(c2.1 0 0 (by omega)).1]; exact q1) hm' 10 0 (nI g)
      rw [d1] at hc2
      have e876 : v4.1 876 0 = upd (upd (upd (v.1 876 0) (3 * m) 1) (3 * m + 1) (v.1 12 0 18)) (3 * m + 2) (nI g) := by
        rw [(d4.1 876 0 (by omega)).1, si_row, (h4.1 876 0 (by omega)).1, g6]
      refine ⟨r, w4, v4, hc2, ⟨1, _, hm2, Or.inr ⟨by decide, d2⟩⟩, c2.cF.cK.tr d3, ((g1.tr h4.mW).si).tr d4.mW, ?_⟩
      rcases d5 with d5 | ⟨e1, e2, e3, e4, e5⟩
      · exact Or.inl d5
      · refine Or.inr ⟨e1, i + 1 + 1 + 1, by omega, e2, e3, by omega, ?_, lnA_s q4 (fun j hj => ?_) (fun k hk => ?_) ?_⟩
        · rw [d4.2.1 36 (by omega), si_t (by decide), h4.2.1 36 (by omega), g5]
          exact q3
        · rw [(e5 j hj).1, (e5 j hj).2.1, (e5 j hj).2.2, (c2.1 100 0 (by omega)).1, (c2.1 101 0 (by omega)).1, (c2.1 102 0 (by omega)).1]
          exact ⟨rfl, rfl, rfl⟩
        · rw [e876, upd_n (by omega), upd_n (by omega), upd_n (by omega)]
        · rw [e4.1, e4.2.1, e4.2.2, e876, upd_s, upd_n (by omega), upd_n (by omega), upd_s]
          exact Or.inr (Or.inl ⟨rfl, rfl, g, h1, rfl, rfl⟩)
    · have h1' : nc_Call m_X2_named [.inr (.inr (2, 0)), tO, .inl 12, .inl 10] w2 = some (some (.inl (-1)), w3) := h1
      have h2' : nc_Call m_X12_takesName [mO, .inl 12, .inl (nI N)] v1 = some (some (.inl 0), v3) := h2
      rw [h1', nc_bI_v, nc_bI_v, if_pos (by decide)] at hc2
      rw [h2', nc_bI_v, if_neg (fun z => z rfl)] at hm2
      exact ⟨0, w3, v3, hc2, ⟨0, v3, hm2, Or.inl ⟨rfl, rfl, rfl⟩⟩, h3.cK, g1.tr h4.mW, Or.inl ⟨rfl, h5⟩⟩
theorem bl_day (P : Pb w v b sz lim n i t f C N m) (hq : wq t = 11) : LB w v (nc_Call m_X0_readLine [.inr (.inr (0, 0)), tO, .inr (.inr (2, 0))] w) b sz lim n i C N m := by
  have P0 := P
  obtain ⟨p1, p2, p3, p4, p5, p6, p7, p8, ⟨q1, q2, q3, q4⟩, p10, p11⟩ := P
  have hC8 := p8.2.2.1
  have hN10 := p8.2.2.2.1
  have hc : nc_Call m_X0_readLine [.inr (.inr (0, 0)), tO, .inr (.inr (2, 0))] w = nc_Run m_X0_readLine 21 [some (.inr (.inr (0, 0))), some tO, some (.inr (.inr (2, 0))), some (.inl 11), none, none, none] [] w := by
    rw [qc_X0_readLine, sa_word p3 p11, nc_bI_v, wqy t (j := 11) (by decide) hq, if_neg (show ¬ nI 11 = (10 : Int32) by decide), if_pos (show nI 11 = (11 : Int32) from rfl)]
    rfl
  have hm : nc_Call m_X12_bookLine [mO] v = nc_Run m_X12_bookLine 47 [some mO, some (.inl (nI (3 * m))), some (.inl 0), some (.inl 1)] [] v := by
    rw [qc_X12_bookLine, nc_li_v, q3, x3m, wl_10, sm_wq (by decide) p6 p11, nc_bI_v, wl_11, sm_wq (by decide) p6 p11, nc_bI_v, tI_t hq, tI_f (by omega), if_neg (by decide), if_pos (by decide)]
  by_cases hm4 : m = 40
  · refine lb_full P0 _ ?_ mZ.rf mW.rf ?_
    · rw [hc, qr_X0_readLine_21, q1, if_neg (fun z => by have := (lt40 q2).mp z; omega)]
    · rw [hm, qr_X12_bookLine_47, q3, if_neg (fun z => (ne40 q2).mp z hm4)]
  · have hm' : m < 40 := by omega
    obtain ⟨v1, g0, g1, g2, g3, g4, g5, g6⟩ := sm_84 (i := i) (m := m) (x := 0) (y := 1) (za := 2) p5 (p10 ▸ p6) p7 hm'
    have J1 : Jt w v1 b sz lim n (i + 1) := ⟨p1, p2, g2, g3, p4, g4⟩
    have hm2 := hm
    rw [qr_X12_bookLine_47, q3, if_pos ((ne40 q2).mpr hm4), if_pos rfl, if_neg (by decide), g0] at hm2
    rw [if_neg (show ¬ (1 : Int32) = 0 by decide)] at hm2
    obtain ⟨r, w2, v2, c1, c2, c3, c4, c5⟩ := jt_number (lo := 1) (hi := 60) J1 (by decide) (by decide)
    have c1' : nc_Call m_X10_nextNumber [tO, .inl 1, .inl 60] w = some (some (.inl r), w2) := c1
    have c2' : nc_Call m_X12_takes [mO, .inl 1, .inl 60] v1 = some (some (.inl r), v2) := c2
    have hc2 := hc
    rw [qr_X0_readLine_21, q1, if_pos ((lt40 q2).mpr hm'), qc_X0_readArg, if_neg (fun z => z rfl), c1', nc_bI_v] at hc2
    rw [c2', nc_bI_v] at hm2
    rcases c5 with ⟨rfl, fq⟩ | ⟨rfl, J2, x, x1, x2, x3, x4⟩
    · rw [if_pos rfl, nc_bI_v, if_pos (by decide)] at hc2
      rw [if_neg (fun z => z rfl)] at hm2
      exact ⟨0, w2, v2, hc2, ⟨0, v2, hm2, Or.inl ⟨rfl, rfl, rfl⟩⟩, c3.cK, g1.tr c4.mW, Or.inl ⟨rfl, fq⟩⟩
    · rw [if_neg (by decide), nc_bI_v, x3, if_neg (nI_pos (by omega))] at hc2
      rw [if_pos (by decide), i1_135 hm', nc_lt_v, x4] at hm2
      have J3 : Jt w2 (nc_si v2 876 0 (3 * m + 1) (nI x)) b sz lim n (i + 1 + 1) := Jt_z J2 cZ.rf (mZ.rf.si ⟨by decide, by decide⟩)
      obtain ⟨r, w4, v4, d1, d2, d3, d4, d5⟩ := bt_tail J3 (by rw [(c3.1 0 0 (by omega)).1]; exact q1) hm' 11 0 (nI x)
      rw [d1] at hc2
      have e876 : v4.1 876 0 = upd (upd (upd (v.1 876 0) (3 * m) 2) (3 * m + 1) (v.1 12 0 18)) (3 * m + 1) (nI x) := by
        rw [(d4.1 876 0 (by omega)).1, si_row, (c4.1 876 0 (by omega)).1, g6]
      refine ⟨r, w4, v4, hc2, ⟨1, _, hm2, Or.inr ⟨by decide, d2⟩⟩, c3.cK.tr d3, ((g1.tr c4.mW).si).tr d4.mW, ?_⟩
      rcases d5 with d5 | ⟨e1, e2, e3, e4, e5⟩
      · exact Or.inl d5
      · refine Or.inr ⟨e1, i + 1 + 1 + 1, by omega, e2, e3, by omega, ?_, lnA_s q4 (fun j hj => ?_) (fun k hk => ?_) ?_⟩
        · rw [d4.2.1 36 (by omega), si_t (by decide), c4.2.1 36 (by omega), g5]
          exact q3
        · rw [(e5 j hj).1, (e5 j hj).2.1, (e5 j hj).2.2, (c3.1 100 0 (by omega)).1, (c3.1 101 0 (by omega)).1, (c3.1 102 0 (by omega)).1]
          exact ⟨rfl, rfl, rfl⟩
        · rw [e876, upd_n (by omega), upd_n (by omega), upd_n (by omega)]
        · rw [e4.1, e4.2.1, e4.2.2, e876, upd_s, upd_n (show 3 * m ≠ 3 * m + 1 by omega), upd_n (show 3 * m ≠ 3 * m + 1 by omega), upd_s]
          exact Or.inr (Or.inr ⟨rfl, rfl, x, x1, x2, rfl, rfl⟩)
theorem bl_hears (P : Pb w v b sz lim n i t f C N m) (hq : wq t ≠ 10 ∧ wq t ≠ 11) : LB w v (nc_Call m_X0_readLine [.inr (.inr (0, 0)), tO, .inr (.inr (2, 0))] w) b sz lim n i C N m := by
  have P0 := P
  obtain ⟨p1, p2, p3, p4, p5, p6, p7, p8, ⟨q1, q2, q3, q4⟩, p10, p11⟩ := P
  have hC8 := p8.2.2.1
  have hN10 := p8.2.2.2.1
  have hc := qc_X0_readLine 0 0 0 w
  rw [sa_word p3 p11, nc_bI_v, if_neg (show ¬ _ = (10 : Int32) from wqn t (j := 10) (by decide) hq.1), if_neg (show ¬ _ = (11 : Int32) from wqn t (j := 11) (by decide) hq.2)] at hc
  have hm := qc_X12_bookLine 0 v
  rw [nc_li_v, q3, x3m, wl_10, sm_wq (by decide) p6 p11, nc_bI_v, wl_11, sm_wq (by decide) p6 p11, nc_bI_v, tI_f hq.1, tI_f hq.2, if_neg (fun z => z rfl), if_neg (fun z => z rfl), p8.2.2.2.2.2.1] at hm
  rcases jt_looks (dn := 0) (B := 0) (fs := 4) (sl := 8) (mn := C) p3 p6 p11 p7 p8.1 p8.2.1 p8.2.2.1 p8.2.2.2.1 (by decide) (srt_c p8.2.1 p8.2.2.1) with ⟨c, v0, c1, c2, c3, c4⟩ | ⟨w1, v1, c1, c2, c3, c4, c5⟩
  · have c2' : nc_Call m_X2_named [.inr (.inr (2, 0)), tO, .inl 4, .inl 8] w = some (some (.inl (nI c)), w) := c2
    have c3' : nc_Call m_X12_looksAt [mO, .inl 4, .inl (nI C)] v = some (some (.inl 1), v0) := c3
    rw [c2', nc_bI_v, if_pos (nI_pos' (by omega)), q1] at hc
    have z0 : mZ v v0 := by rw [c4]; exact mZ.rf.sk (by decide)
    have mw0 : mW v v0 := by rw [c4]; exact mW.rf.sk (by omega)
    have v36 : v0.1 12 0 36 = nI m := by rw [c4, si_k (by decide)]; exact q3
    have v18 : v0.1 12 0 18 = nI c := by rw [c4, si_s]
    have v876 : v0.1 876 0 = v.1 876 0 := by rw [c4, si_t (by decide)]
    rw [c3', nc_bI_v, if_pos (by decide), qr_X12_bookLine_47, v36] at hm
    by_cases hm4 : m = 40
    · rw [if_neg (fun z => by have := (lt40 q2).mp z; omega)] at hc
      rw [if_neg (fun z => (ne40 q2).mp z hm4)] at hm
      exact lb_full P0 _ hc z0 mw0 hm
    · have hm' : m < 40 := by omega
      rw [if_pos ((lt40 q2).mpr hm')] at hc
      rw [if_pos ((ne40 q2).mpr hm4), if_pos rfl, if_pos rfl] at hm
      obtain ⟨v1, g0, g1, g2, g3, g4, g5, g6⟩ := sm_84 (v := v0) (i := i) (m := m) (x := 0) (y := 0) (za := 0) (MS_z p5 z0) (MT_z (p10 ▸ p6) z0) (TW_z p7 z0.2.2.2.1 z0.2.2.2.2) hm'
      rw [if_pos rfl, if_neg (fun z => z rfl)] at g0
      rw [g0] at hm
      have J1 : Jt w v1 b sz lim n (i + 1) := ⟨p1, p2, g2, g3, p4, g4⟩
      obtain ⟨w2, a1, a2, a3, a4, a5, a6⟩ := jt_c J1
      have hk2 := Tk_ok (b := b) (sz := sz) (lim := lim) (i + 1)
      rw [a1, nc_bV_v, sa_word a5 hk2, nc_bI_v] at hc
      rw [wl_9, sm_wq (by decide) g3 hk2, nc_bI_v] at hm
      by_cases h9 : wq (Tk b sz lim (i + 1)) = 9
      · rw [wqy _ (j := 9) (by decide) h9, if_pos (show nI 9 = (9 : Int32) from rfl), qc_X0_readArg, if_pos (show nI 9 ≠ (11 : Int32) by decide)] at hc
        obtain ⟨v2, k1, k2, k3, k4, k5⟩ := jt_m g2 g3 g4
        rw [tI_t h9, if_pos (by decide), k1, nc_bV_v] at hm
        have J2 : Jt w2 v2 b sz lim n (i + 1 + 1) := ⟨a3, a4, k3, k4, a6, k5⟩
        have NS2 : NS w2 v2 f C N := NS_z p8 (a2.1 236 0 (by omega)).2 (((mw0.tr g1).tr k2.mF.mW).1 877 0 (by omega)).2 (((mw0.tr g1).tr k2.mF.mW).1 874 0 (by omega)).1
        rw [NS2.2.2.2.2.2.2] at hm
        obtain ⟨w3, b1, b2, b3⟩ := jt_named (dn := 0) (B := 0) (fs := 12) (sl := 10) (mn := N) J2 NS2.1 NS2.2.1 NS2.2.2.1 NS2.2.2.2.1 (by decide) (srt_n NS2.2.1 NS2.2.2.1 NS2.2.2.2.1)
        rw [b1, nc_bV_v] at hc
        rcases b3 with ⟨g, v3, h1, h2, h3, h4, h5, h6⟩ | ⟨w4, v3, h1, h2, h3, h4, h5⟩
        · have h2' : nc_Call m_X2_named [.inr (.inr (2, 0)), tO, .inl 12, .inl 10] w3 = some (some (.inl (nI g)), w3) := h2
          have h3' : nc_Call m_X12_takesName [mO, .inl 12, .inl (nI N)] v2 = some (some (.inl 1), v3) := h3
          rw [h2', nc_bI_v, nc_bI_v, if_neg (nI_pos (by omega))] at hc
          rw [h3', nc_bI_v, if_pos (by decide), i2_135 hm', nc_lt_v, h5] at hm
          have J3 : Jt w3 (nc_si v3 876 0 (3 * m + 2) (nI g)) b sz lim n (i + 1 + 1 + 1) := Jt_z h6 cZ.rf (mZ.rf.si ⟨by decide, by decide⟩)
          obtain ⟨r, w4, v4, d1, d2, d3, d4, d5⟩ := bt_tail J3 (by rw [(b2.1 0 0 (by omega)).1, (a2.1 0 0 (by omega)).1]; exact q1) hm' (nI 9) (nI c) (nI g)
          rw [d1] at hc
          have e876 : v4.1 876 0 = upd (upd (upd (v.1 876 0) (3 * m) 0) (3 * m + 1) (nI c)) (3 * m + 2) (nI g) := by
            rw [(d4.1 876 0 (by omega)).1, si_row, (h4.1 876 0 (by omega)).1, (k2.1 876 0 (by omega)).1, g6, v876, v18]
          refine ⟨r, w4, v4, hc, ⟨1, _, hm, Or.inr ⟨by decide, d2⟩⟩, (a2.cF.cK.tr b2.cF.cK).tr d3, ((((mw0.tr g1).tr k2.mF.mW).tr h4.mW).si).tr d4.mW, ?_⟩
          rcases d5 with d5 | ⟨e1, e2, e3, e4, e5⟩
          · exact Or.inl d5
          · refine Or.inr ⟨e1, i + 1 + 1 + 1 + 1, by omega, e2, e3, by omega, ?_, lnA_s q4 (fun j hj => ?_) (fun k hk => ?_) ?_⟩
            · rw [d4.2.1 36 (by omega), si_t (by decide), h4.2.1 36 (by omega), k2.2.1 36 (by omega), g5]
              exact v36
            · rw [(e5 j hj).1, (e5 j hj).2.1, (e5 j hj).2.2, (b2.1 100 0 (by omega)).1, (b2.1 101 0 (by omega)).1, (b2.1 102 0 (by omega)).1, (a2.1 100 0 (by omega)).1, (a2.1 101 0 (by omega)).1, (a2.1 102 0 (by omega)).1]
              exact ⟨rfl, rfl, rfl⟩
            · rw [e876, upd_n (by omega), upd_n (by omega), upd_n (by omega)]
            · rw [e4.1, e4.2.1, e4.2.2, e876, upd_s, upd_n (show 3 * m ≠ 3 * m + 2 by omega), upd_n (show 3 * m ≠ 3 * m + 1 by omega), upd_s, upd_n (show 3 * m + 1 ≠ 3 * m + 2 by omega), upd_s]
              exact Or.inl ⟨rfl, rfl, c, g, c1, h1, rfl, rfl, rfl, rfl⟩
        · have h1' : nc_Call m_X2_named [.inr (.inr (2, 0)), tO, .inl 12, .inl 10] w3 = some (some (.inl (-1)), w4) := h1
          have h2' : nc_Call m_X12_takesName [mO, .inl 12, .inl (nI N)] v2 = some (some (.inl 0), v3) := h2
          rw [h1', nc_bI_v, nc_bI_v, if_pos (by decide)] at hc
          rw [h2', nc_bI_v, if_neg (fun z => z rfl)] at hm
          exact ⟨0, w4, v3, hc, ⟨0, v3, hm, Or.inl ⟨rfl, rfl, rfl⟩⟩, a2.cF.cK.tr h3.cK, ((mw0.tr g1).tr k2.mF.mW).tr h4.mW, Or.inl ⟨rfl, h5⟩⟩
      · rw [if_neg (show ¬ _ = (9 : Int32) from wqn _ (j := 9) (by decide) h9)] at hc
        rw [tI_f h9, if_neg (fun z => z rfl)] at hm
        obtain ⟨w3, v3, f1, f2, f3, f4, f5⟩ := jt_fail (w := w2) (v := v1) (t := Tk b sz lim (i + 1)) 1 a5.1 g3.2.1
        rw [f1, nc_bI_v, nc_z_0] at hc
        rw [f2, nc_bI_v, nc_z_0] at hm
        exact ⟨0, w3, v3, hc, ⟨0, v3, hm, Or.inl ⟨rfl, rfl, rfl⟩⟩, a2.cF.cK.tr f3.cK, (mw0.tr g1).tr f4.mW, Or.inl ⟨rfl, f5⟩⟩
  · have c1' : nc_Call m_X2_named [.inr (.inr (2, 0)), tO, .inl 4, .inl 8] w = some (some (.inl (-1)), w1) := c1
    have c2' : nc_Call m_X12_looksAt [mO, .inl 4, .inl (nI C)] v = some (some (.inl 0), v1) := c2
    rw [c1', nc_bI_v, if_neg (by decide)] at hc
    rw [c2', nc_bI_v, if_neg (fun z => z rfl)] at hm
    exact ⟨0, w1, v1, hc, ⟨0, v1, hm, Or.inl ⟨rfl, rfl, rfl⟩⟩, c3.cK, c4.mW, Or.inl ⟨rfl, c5⟩⟩
theorem bl_line (P : Pb w v b sz lim n i t f C N m) : LB w v (nc_Call m_X0_readLine [.inr (.inr (0, 0)), tO, .inr (.inr (2, 0))] w) b sz lim n i C N m := by
  by_cases q : wq t = 10
  · exact bl_found P q
  · by_cases q2 : wq t = 11
    · exact bl_day P q2
    · exact bl_hears P ⟨q, q2⟩
end BM
