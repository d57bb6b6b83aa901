/-! Lines: cows, as they are read. -/
section LX
variable {w w' v v' : nc_H} {b : Nat → Nat} {sz lim n i : Nat} {t : Tok} {f C N h : Nat} {S S' : Nat → Int32}
theorem ln_cow (P : Pr w v b sz lim n i t f C N h) (hq : wq t = 1) : LQ w v (nc_Call m_X3_readCow [.inr (.inr (3, 0))] w) b sz lim n i := by
  obtain ⟨v1, g1, g2, J1, D1⟩ := Pr_next P
  obtain ⟨p1, p2, p3, p4, p5, p6, p7, p8, p9, p10⟩ := P
  have s := p8.1.1
  have s1 := D1.1.1
  have hf : f ≤ 4 := s.2.2.2.2.1
  have hC8 : C ≤ 8 := s.2.2.2.2.2.1
  have hN : N ≤ 10 := s.2.2.2.2.2.2.1
  have hl : nc_Call m_X12_line [mO] v = if nI C ≠ 8 then
        nc_bV (nc_Call m_X12_next [mO] v) fun w24 =>
        nc_bI (nc_Call m_X12_fresh [mO, .inl (26 + nI C)] w24) fun r26 w25 =>
        if r26 = 0 then
          some (some (.inl 0), w25)
        else
          nc_bI (nc_Call m_X12_takesName [mO, .inl 22, .inl (w25.1 875 0 0)] w25) fun r28 w27 =>
          if r28 ≠ 0 then
            nc_bd (5 + nI C) 76 fun j29 =>
            nc_lt (nc_si w27 875 0 j29 (w27.1 12 0 18)) fun w30 =>
            nc_bI (nc_Call m_X12_puts [mO, .inl (13 + nI C), .inl 1, .inl 40] w30) fun r32 w31 =>
            if r32 = 0 then
              some (some (.inl 0), w31)
            else
              nc_bI (nc_Call m_X12_puts [mO, .inl (21 + nI C), .inl 1, .inl 9] w31) fun r34 w33 =>
              if r34 = 0 then
                some (some (.inl 0), w33)
              else
                nc_bI (nc_Call m_X12_puts [mO, .inl (29 + nI C), .inl 1, .inl 30] w33) fun r36 w35 =>
                if r36 ≠ 0 then
                  nc_lt (nc_si w35 875 0 1 ((w35.1 875 0 1) + 1)) fun w37 =>
                  some (some (.inl 1), w37)
                else
                  some (some (.inl 0), w35)
          else
            some (some (.inl 0), w27)
      else
        nc_bI (nc_Call m_X12_bad [mO, .inl 4] v) fun r39 w38 =>
        nc_z r39 <| some (some (.inl r39), w38) := by
    rw [qc_X12_line, wl_0, sm_wq (by decide) p6 p10, nc_bI_v, tI_f (by omega), if_pos rfl, wl_1, sm_wq (by decide) p6 p10, nc_bI_v, tI_t hq, if_neg (by decide), nc_li_v, s.2.1]
  have e8 : (nI C ≠ 8) ↔ C ≠ 8 := not_congr (nI_lit (by omega) 8 (by decide))
  rw [qc_X3_readCow, p8.1.2.1.2.1, nc_li_v]
  unfold LQ LN
  rw [hl]
  by_cases q : C < 8
  · rw [if_pos (show nI C < (8 : Int32) from (nI_litlt (n := 8) (by omega) (by omega)).mpr q), if_pos (e8.mpr (by omega)), g1, nc_bV_v, show (4 : Int32) + nI C = nI (4 + C) from nI_add 4 C, show (26 : Int32) + nI C = nI (22 + (4 + C)) by rw [show (26 : Int32) = nI 26 from rfl, nI_add]; congr 1; omega]
    rcases jt_fresh (s := 4 + C) J1 D1.2.1.2.2 hf hC8 hN s1.1 s1.2.1 s1.2.2.1 (by omega) with ⟨w2, v2, a1, a2, a3, a4, a5⟩ | ⟨l, w2, v2, l1, l2, l3, a1, a2, a3, a4, J2⟩
    · refine ⟨0, w2, v2, ?_, ⟨0, v2, ?_, Or.inl ⟨rfl, rfl, rfl⟩⟩, a3.cR, g2.mF.mR.tr a4.mR, Or.inl ⟨rfl, a5⟩⟩
      · rw [a1, nc_bI_v, if_neg (fun z => z rfl)]
      · rw [a2, nc_bI_v, if_pos rfl]
    · have v80 : v2.1 875 0 = v1.1 875 0 := (a4.1 875 0 (by omega)).1
      have nm2 : nmOK ((nc_sl w2 236 1 (4 + C) (enc5 l)).2 236 1) (fun k => v2.2 877 0 (22 + k)) f (C + 1) N := by
        refine nm_add (s := 4 + C) D1.2.1.2.2 l1 l2 l3 (fun j => by unfold usd; omega) (fun j => ?_) (fun j => ?_) (fun z => by unfold usd at z; omega)
        · by_cases e : j = 4 + C
          · rw [if_pos e, e, sl_s]
          · rw [if_neg e, sl_k e, (a3.1 236 1 (by omega)).2]
        · show v2.2 877 0 (22 + j) = _
          rw [(a4.1 877 0 (by omega)).2]
          by_cases e : j = 4 + C
          · rw [if_pos e, e, sl_s]
          · rw [if_neg e, sl_k (by omega)]
      have mr2 : mR v v2 := (g2.mF.mR.sL (k := 22 + (4 + C)) (x := enc8 l) (by omega)).tr a4.mF.mR
      have cr2 : cR w (nc_sl w2 236 1 (4 + C) (enc5 l)) := a3.cR.sL
      have cf2 : cF (nc_sl w 236 1 (4 + C) (enc5 l)) (nc_sl w2 236 1 (4 + C) (enc5 l)) := cF_sl a3.cF
      obtain ⟨w3, b1, b2, b3⟩ := jt_named (dn := 1) (B := 22) J2 nm2 hf (by omega) hN (by decide) (srt_f hf)
      rw [a1, nc_bI_v, if_pos (by decide), b1, nc_bV_v, a2, nc_bI_v, if_neg (by decide), v80, s1.1]
      rcases b3 with ⟨g, v3, c1, c2, c3, c4, c5, J3⟩ | ⟨w4, v3, c2, c3, c4, c5, c6⟩
      · have c2' : nc_Call m_X2_named [.inr (.inr (2, 1)), tO, .inl 0, .inl 4] w3 = some (some (.inl (nI g)), w3) := c2
        have c3' : nc_Call m_X12_takesName [mO, .inl 22, .inl (nI f)] v2 = some (some (.inl 1), v3) := c3
        rw [c2', nc_bI_v, if_neg (show ¬ nI g < (0 : Int32) from fun z => by have := (nI_litlt (n := 0) (by omega) (by omega)).mp z; omega), if_neg (show ¬ (4 : Int32) ≤ nI g from nI_ge (b := 4) (by omega) (by decide)), c3', nc_bI_v, if_pos (by decide), show (5 : Int32) + nI C = nI (5 + C) from nI_add 5 C, bd8 (5 + C) 76 (by omega) (by decide), nc_lt_v, c5, show (13 : Int32) + nI C = nI (13 + C) from nI_add 13 C, show (21 : Int32) + nI C = nI (21 + C) from nI_add 21 C, show (29 : Int32) + nI C = nI (29 + C) from nI_add 29 C]
        have J3' : Jt w3 (nc_si v3 875 0 (5 + C) (nI g)) b sz lim n (i + 1 + 1 + 1) := Jt_z J3 cZ.rf (mZ.rf.si ⟨by decide, by decide⟩)
        have mf3 : mF (nc_si (nc_sl v1 877 0 (22 + (4 + C)) (enc8 l)) 875 0 (5 + C) (nI g)) (nc_si v3 875 0 (5 + C) (nI g)) := mF_si (a4.mF.tr c4) (by decide)
        have mr3 : mR v (nc_si v3 875 0 (5 + C) (nI g)) := (mr2.tr c4.mR).si
        rcases jt_puts (lo := 1) (hi := 40) (to := 13 + C) J3' (by decide) (by decide) (by omega) with ⟨w4, v4, d1, d2, d3, d4, d5⟩ | ⟨x, w4, v4, x1, x2, d1, d2, d3, d4, d5, J4⟩
        · refine ⟨0, w4, v4, ?_, ⟨0, v4, ?_, Or.inl ⟨rfl, rfl, rfl⟩⟩, (cr2.tr b2.cR).tr d3.cR, mr3.tr d4.mR, Or.inl ⟨rfl, d5⟩⟩
          · have d1' : nc_Call m_X10_nextNumber [tO, .inl 1, .inl 40] w3 = some (some (.inl 0), w4) := d1
            rw [d1', nc_bI_v, if_neg (fun z => z rfl)]
          · have d2' : nc_Call m_X12_puts [mO, .inl (nI (13 + C)), .inl 1, .inl 40] (nc_si v3 875 0 (5 + C) (nI g)) = some (some (.inl 0), v4) := d2
            rw [d2', nc_bI_v, if_pos rfl]
        · have d1' : nc_Call m_X10_nextNumber [tO, .inl 1, .inl 40] w3 = some (some (.inl 1), w4) := d1
          have d2' : nc_Call m_X12_puts [mO, .inl (nI (13 + C)), .inl 1, .inl 40] (nc_si v3 875 0 (5 + C) (nI g)) = some (some (.inl 1), nc_si v4 875 0 (13 + C) (nI x)) := d2
          have cf4 : cF (nc_sl w 236 1 (4 + C) (enc5 l)) w4 := (cf2.tr b2.cF).tr d3
          have e237 : w4.1 237 1 g = w.1 237 1 g := by
            rw [(cf4.1 237 1 (by omega)).1]
            rfl
          rw [d1', nc_bI_v, if_pos (by decide), bd8 C 8 q (by decide), nc_lt_v, bd8 g 4 (by omega) (by decide), bd8 g 4 (by omega) (by decide), nc_lt_v, bd8 C 8 q (by decide), nc_lt_v, d2', nc_bI_v, if_neg (by decide)]
          rw [show (nc_si w4 238 1 C (nI g)).1 237 1 g = w.1 237 1 g by rw [si_t (by decide)]; exact e237, show (nc_si (nc_si w4 238 1 C (nI g)) 237 1 g (w.1 237 1 g ||| 1 <<< (nI C &&& 31))).1 10 0 12 = nI x by rw [si_t (by decide), si_t (by decide)]; exact d5]
          have J4' : Jt (nc_si (nc_si (nc_si w4 238 1 C (nI g)) 237 1 g (w.1 237 1 g ||| 1 <<< (nI C &&& 31))) 239 1 C (nI x)) (nc_si v4 875 0 (13 + C) (nI x)) b sz lim n (i + 1 + 1 + 1 + 1) := Jt_z J4 (((cZ.rf.si ⟨by decide, by decide, by decide, by decide⟩).si ⟨by decide, by decide, by decide, by decide⟩).si ⟨by decide, by decide, by decide, by decide⟩) mZ.rf
          have cf4' := cF_si (t := 239) (a := 1) (k := C) (x := nI x) (cF_si (t := 237) (a := 1) (k := g) (x := w.1 237 1 g ||| 1 <<< (nI C &&& 31)) (cF_si (t := 238) (a := 1) (k := C) (x := nI g) cf4 (by decide)) (by decide)) (by decide)
          have mf4 := mF_si (t := 875) (a := 0) (k := 13 + C) (x := nI x) (mf3.tr d4) (by decide)
          have mr4 : mR v (nc_si v4 875 0 (13 + C) (nI x)) := (mr3.tr d4.mR).si
          have cr4 : cR w (nc_si (nc_si (nc_si w4 238 1 C (nI g)) 237 1 g (w.1 237 1 g ||| 1 <<< (nI C &&& 31))) 239 1 C (nI x)) := (((((cr2.tr b2.cR).tr d3.cR).si (by omega)).si (by omega)).si (by omega))
          rcases jt_puts (lo := 1) (hi := 9) (to := 21 + C) J4' (by decide) (by decide) (by omega) with ⟨w5, v5, e1, e2, e3, e4, e5⟩ | ⟨y, w5, v5, y1, y2, e1, e2, e3, e4, e5, J5⟩
          · have e1' : nc_Call m_X10_nextNumber [tO, .inl 1, .inl 9] _ = some (some (.inl 0), w5) := e1
            have e2' : nc_Call m_X12_puts [mO, .inl (nI (21 + C)), .inl 1, .inl 9] _ = some (some (.inl 0), v5) := e2
            refine ⟨0, w5, v5, ?_, ⟨0, v5, ?_, Or.inl ⟨rfl, rfl, rfl⟩⟩, cr4.tr e3.cR, mr4.tr e4.mR, Or.inl ⟨rfl, e5⟩⟩
            · rw [e1', nc_bI_v, if_neg (fun z => z rfl)]
            · rw [e2', nc_bI_v, if_pos rfl]
          · have e1' : nc_Call m_X10_nextNumber [tO, .inl 1, .inl 9] _ = some (some (.inl 1), w5) := e1
            have e2' : nc_Call m_X12_puts [mO, .inl (nI (21 + C)), .inl 1, .inl 9] _ = some (some (.inl 1), nc_si v5 875 0 (21 + C) (nI y)) := e2
            rw [e1', nc_bI_v, if_pos (by decide), bd8 C 8 q (by decide), e5, nc_lt_v, e2', nc_bI_v, if_neg (by decide)]
            have J5' : Jt (nc_si w5 240 1 C (nI y)) (nc_si v5 875 0 (21 + C) (nI y)) b sz lim n (i + 1 + 1 + 1 + 1 + 1) := Jt_z J5 (cZ.rf.si ⟨by decide, by decide, by decide, by decide⟩) mZ.rf
            have cf5 := cF_si (t := 240) (a := 1) (k := C) (x := nI y) (cf4'.tr e3) (by decide)
            have mf5 := mF_si (t := 875) (a := 0) (k := 21 + C) (x := nI y) (mf4.tr e4) (by decide)
            have mr5 : mR v (nc_si v5 875 0 (21 + C) (nI y)) := (mr4.tr e4.mR).si
            have cr5 : cR w (nc_si w5 240 1 C (nI y)) := (cr4.tr e3.cR).si (by omega)
            rcases jt_puts (lo := 1) (hi := 30) (to := 29 + C) J5' (by decide) (by decide) (by omega) with ⟨w6, v6, f1, f2, f3, f4, f5⟩ | ⟨z, w6, v6, z1, z2, f1, f2, f3, f4, f5, J6⟩
            · have f1' : nc_Call m_X10_nextNumber [tO, .inl 1, .inl 30] _ = some (some (.inl 0), w6) := f1
              have f2' : nc_Call m_X12_puts [mO, .inl (nI (29 + C)), .inl 1, .inl 30] _ = some (some (.inl 0), v6) := f2
              refine ⟨0, w6, v6, ?_, ⟨0, v6, ?_, Or.inl ⟨rfl, rfl, rfl⟩⟩, cr5.tr f3.cR, mr5.tr f4.mR, Or.inl ⟨rfl, f5⟩⟩
              · rw [f1', nc_bI_v, if_neg (fun z => z rfl)]
              · rw [f2', nc_bI_v, if_neg (fun z => z rfl)]
            · have f1' : nc_Call m_X10_nextNumber [tO, .inl 1, .inl 30] _ = some (some (.inl 1), w6) := f1
              have f2' : nc_Call m_X12_puts [mO, .inl (nI (29 + C)), .inl 1, .inl 30] _ = some (some (.inl 1), nc_si v6 875 0 (29 + C) (nI z)) := f2
              have cf6 := cF_si (t := 241) (a := 1) (k := C) (x := nI z) (cf5.tr f3) (by decide)
              have mf6 := mF_si (t := 875) (a := 0) (k := 29 + C) (x := nI z) (mf5.tr f4) (by decide)
              have w2C : (nc_si w6 241 1 C (nI z)).1 2 1 2 = nI C := by
                rw [(cf6.1 2 1 (by omega)).1, si_t (by decide), si_t (by decide), si_t (by decide), si_t (by decide), si_t (by decide), sl_1]
                exact p8.1.2.1.2.1
              have v2C : (nc_si v6 875 0 (29 + C) (nI z)).1 875 0 1 = nI C := by
                rw [(mf6.1 875 0 (by omega)).1, si_k (by omega), si_k (by omega), si_k (by omega), si_k (by omega), sl_1]
                exact s1.2.1
              have J7 : Jt (nc_si (nc_si w6 241 1 C (nI z)) 2 1 2 (nI (C + 1))) (nc_si (nc_si v6 875 0 (29 + C) (nI z)) 875 0 1 (nI (C + 1))) b sz lim n (i + 1 + 1 + 1 + 1 + 1 + 1) := Jt_z J6 ((cZ.rf.si ⟨by decide, by decide, by decide, by decide⟩).si ⟨by decide, by decide, by decide, by decide⟩) (mZ.rf.si ⟨by decide, by decide⟩)
              have D7 : DD (nc_si (nc_si w6 241 1 C (nI z)) 2 1 2 (nI (C + 1))) (nc_si (nc_si v6 875 0 (29 + C) (nI z)) 875 0 1 (nI (C + 1))) f (C + 1) N h := DD_F (DD_cow (g := g) (x := x) (y := y) (z := z) D1 q l1 l2 l3 c1 x2 z2) (cF_si cf6 (by decide)) (mF_si mf6 (by decide))
              obtain ⟨r, w8, v8, h1, h2, h3, h4, h5⟩ := jt_close J7
              have r01 : r = 0 ∨ r = 1 := h5.elim (fun z => Or.inl z.1) (fun z => Or.inr z.1)
              refine ⟨r, w8, v8, ?_, ⟨1, _, ?_, Or.inr ⟨by decide, h2⟩⟩, (((cr5.tr f3.cR).si (by omega)).si (by omega)).tr h3.cR, (((mr5.tr f4.mR).si).si).tr h4.mR, ?_⟩
              · rw [f1', nc_bI_v, if_pos (by decide), bd8 C 8 q (by decide), f5, nc_lt_v, w2C, nI_1, nc_lt_v, h1, nc_bI_v, nc_z_of r01]
              · rw [f2', nc_bI_v, if_pos (by decide), v2C, nI_1, nc_lt_v]
              · rcases h5 with z | z
                · exact Or.inl z
                · exact Or.inr ⟨z.1, _, f, C + 1, N, h, by omega, z.2, DD_F D7 h3 h4⟩
      · have c2' : nc_Call m_X2_named [.inr (.inr (2, 1)), tO, .inl 0, .inl 4] w3 = some (some (.inl (-1)), w4) := c2
        have c3' : nc_Call m_X12_takesName [mO, .inl 22, .inl (nI f)] v2 = some (some (.inl 0), v3) := c3
        refine ⟨0, w4, v3, ?_, ⟨0, v3, ?_, Or.inl ⟨rfl, rfl, rfl⟩⟩, cr2.tr c4.cR, mr2.tr c5.mR, Or.inl ⟨rfl, c6⟩⟩
        · rw [c2', nc_bI_v, if_pos (by decide)]
        · rw [c3', nc_bI_v, if_neg (fun z => z rfl)]
  · rw [if_neg (show ¬ nI C < (8 : Int32) from fun z => q ((nI_litlt (n := 8) (by omega) (by omega)).mp z)), if_neg (fun z => (e8.mp z) (by omega))]
    obtain ⟨w2, v2, a1, a2, a3, a4, a5⟩ := jt_fail (w := w) (v := v) (t := t) 4 p3.1 p6.2.1
    refine ⟨0, w2, v2, ?_, ⟨0, v2, ?_, Or.inl ⟨rfl, rfl, rfl⟩⟩, a3.cR, a4.mR, Or.inl ⟨rfl, a5⟩⟩
    · rw [a1, nc_bI_v, nc_z_0]
    · rw [a2, nc_bI_v, nc_z_0]
end LX
