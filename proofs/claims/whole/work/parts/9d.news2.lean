/-! Lines: news, as they are read. -/
section LF2
variable {w w' v v' : nc_H} {b : Nat → Nat} {sz lim n i : Nat} {t : Tok} {f C N h : Nat} {S S' : Nat → Int32}
theorem close_mb {w6 : nc_H} (hn : nc_Call m_X10_next [tO] w = some (none, w6)) : (nc_bI (nc_Call m_X10_mustBeSign [tO, .inl 59] w6) fun r w2 => nc_z r <| some (some (.inl r), w2)) = nc_Call m_X10_closesLine [tO] w := by
  rw [qc_X10_closesLine, hn, nc_bV_v]
theorem ln_news (P : Pr w v b sz lim n i t f C N h) (hq : wq t = 2) : LQ w v (nc_Call m_X3_readNews [.inr (.inr (3, 0))] w) b sz lim n i := by
  obtain ⟨v1, g1, g2, J1, D1⟩ := Pr_next P
  obtain ⟨p1, p2, p3, p4, p5, p6, p7, p8, p9, p10⟩ := P
  have s := p8.1.1
  have s1 := D1.1.1
  have hf : f ≤ 4 := s.2.2.2.2.1
  have hC8 : C ≤ 8 := s.2.2.2.2.2.1
  have hN : N ≤ 10 := s.2.2.2.2.2.2.1
  have hl0 : ∀ r v', (r = 0 ∨ r = 1) → nc_Call m_X12_readNews [mO] v = some (some (.inl r), v') → nc_Call m_X12_line [mO] v = some (some (.inl r), v') := by
    intro r v' hr hv
    rw [qc_X12_line, wl_0, sm_wq (by decide) p6 p10, nc_bI_v, tI_f (by omega), if_pos rfl, wl_1, sm_wq (by decide) p6 p10, nc_bI_v, tI_f (by omega), if_pos rfl, wl_2, sm_wq (by decide) p6 p10, nc_bI_v, tI_t hq, if_neg (by decide), hv, nc_bI_v, nc_z_of hr]
  have e10 : (nI N ≠ 10) ↔ N ≠ 10 := not_congr (nI_lit (by omega) 10 (by decide))
  rw [qc_X3_readNews, p8.1.2.1.2.2.1, nc_li_v]
  unfold LQ LN
  by_cases q : N < 10
  · rw [if_pos (show nI N < (10 : Int32) from (nI_litlt (n := 10) (by omega) (by omega)).mpr q), show (12 : Int32) + nI N = nI (12 + N) from nI_add 12 N]
    have hm0 : nc_Call m_X12_readNews [mO] v = nc_bI (nc_Call m_X12_fresh [mO, .inl (nI (22 + (12 + N)))] v1) fun r4 w3 =>
    if r4 ≠ 0 then
      nc_bI (nc_Call m_X12_kindOf [mO] w3) fun r6 w5 =>
      nc_lt (nc_si w5 875 0 (37 + N) r6) fun w8 =>
      if (0 : Int32) ≤ (w8.1 875 0 (37 + N)) then
        nc_bV (nc_Call m_X12_next [mO] w8) fun w10 =>
        nc_bI (nc_Call m_X12_puts [mO, .inl (nI (47 + N)), .inl 0, .inl 20] w10) fun r12 w11 =>
        if r12 ≠ 0 then
          nc_bI (nc_Call m_X12_isWord [mO, .inr (.inl 7104869)] w11) fun r14 w13 =>
          if r14 = 0 then
            nc_lt (nc_si w13 875 0 2 ((w13.1 875 0 2) + 1)) fun w15 =>
            some (some (.inl 1), w15)
          else
            nc_lt (nc_si w13 875 0 57 ((w13.1 875 0 57) ||| (1 <<< (nI N &&& 31)))) fun w16 =>
            nc_bV (nc_Call m_X12_next [mO] w16) fun w17 =>
            nc_lt (nc_si w17 875 0 2 ((w17.1 875 0 2) + 1)) fun w18 =>
            some (some (.inl 1), w18)
        else
          some (some (.inl 0), w11)
      else
        nc_bI (nc_Call m_X12_bad [mO, .inl 1] w8) fun r20 w19 =>
        nc_z r20 <| some (some (.inl r20), w19)
    else
      some (some (.inl 0), w3) := by
      rw [qc_X12_readNews, s.2.2.1, nc_li_v, if_pos (e10.mpr (by omega)), g1, nc_bV_v, show (34 : Int32) + nI N = nI (22 + (12 + N)) by rw [show (34 : Int32) = nI 34 from rfl, nI_add]; congr 1; omega, show (37 : Int32) + nI N = nI (37 + N) from nI_add 37 N, show (47 : Int32) + nI N = nI (47 + N) from nI_add 47 N]
      simp only [nc_bd_of (37 + N) (rfl : nI (37 + N) = nI (37 + N)) (show 37 + N < 76 by omega) (show 76 < 2 ^ 31 by decide)]
    rcases jt_fresh (s := 12 + N) J1 D1.2.1.2.2 hf hC8 hN s1.1 s1.2.1 s1.2.2.1 (by omega) with ⟨w2, v2, a1, a2, a3, a4, a5⟩ | ⟨l, w2, v2, l1, l2, l3, a1, a2, a3, a4, J2⟩
    · refine ⟨0, w2, v2, ?_, ⟨0, v2, hl0 0 v2 (Or.inl rfl) ?_, Or.inl ⟨rfl, rfl, rfl⟩⟩, a3.cR, g2.mF.mR.tr a4.mR, Or.inl ⟨rfl, a5⟩⟩
      · rw [a1, nc_bI_v, if_neg (fun z => z rfl)]
      · rw [hm0, a2, nc_bI_v, if_neg (fun z => z rfl)]
    · rw [a2, nc_bI_v, if_pos (by decide)] at hm0
      rw [a1, nc_bI_v, if_pos (by decide)]
      have mr2 : mR v v2 := (g2.mF.mR.sL (k := 22 + (12 + N)) (x := enc8 l) (by omega)).tr a4.mF.mR
      have cr2 : cR w (nc_sl w2 236 1 (12 + N) (enc5 l)) := a3.cR.sL
      have cf2 : cF (nc_sl w 236 1 (12 + N) (enc5 l)) (nc_sl w2 236 1 (12 + N) (enc5 l)) := cF_sl a3.cF
      obtain ⟨w3, b1, b2, b3, b4, b5, b6⟩ := jt_c J2
      have M2 := J2.2.2.2.1
      have hk2 := Tk_ok (b := b) (sz := sz) (lim := lim) (i + 1 + 1)
      rw [b1, nc_bV_v, sa_word b5 hk2, nc_bI_v]
      rw [sm_kind M2 hk2, nc_bI_v, nc_lt_v, si_s] at hm0
      have w24 := wq_le (t := Tk b sz lim (i + 1 + 1))
      by_cases qk : 4 ≤ wq (Tk b sz lim (i + 1 + 1)) ∧ wq (Tk b sz lim (i + 1 + 1)) ≤ 7
      · rw [if_pos (show wq (Tk b sz lim (i + 1 + 1)) < 24 by omega)]
        rw [if_pos qk] at hm0
        obtain ⟨k0, hk0⟩ : ∃ k0, wq (Tk b sz lim (i + 1 + 1)) = 4 + k0 := ⟨wq (Tk b sz lim (i + 1 + 1)) - 4, by omega⟩
        rw [hk0] at qk ⊢
        rw [hk0, show 4 + k0 - 4 = k0 by omega, if_pos (show (0 : Int32) ≤ nI k0 from nI_le (a := 0) (Nat.zero_le _) (by omega))] at hm0
        rw [if_neg (show ¬ nI (4 + k0) < (4 : Int32) from fun z => by have := (nI_litlt (n := 4) (by omega) (by omega)).mp z; omega), if_pos (show nI (4 + k0) ≤ (7 : Int32) from nI_le (b := 7) (by omega) (by omega)), show nI (4 + k0) - 4 = nI k0 by rw [show (4 : Int32) = nI 4 from rfl, pk_sub (by omega)]; congr 1; omega, bd8 N 10 q (by decide), nc_lt_v, bd8 N 10 q (by decide), si_s]
        have z3 : mZ v2 (nc_si v2 875 0 (37 + N) (nI k0)) := mZ.rf.si ⟨by decide, by decide⟩
        obtain ⟨v4, c1, c2, c3, c4, c5⟩ := jt_m (i := i + 1 + 1) (MS_z J2.2.2.1 z3) (MT_z M2 z3) (TW_z J2.2.2.2.2.2 z3.2.2.2.1 z3.2.2.2.2)
        rw [c1, nc_bV_v] at hm0
        -- the class, with wars
        have w27 : (nc_si w3 242 1 N (nI k0)).1 2 1 7 = w.1 2 1 7 := by
          rw [si_t (by decide), ((cf2.tr b2.cF).1 2 1 (by omega)).1]
          rfl
        have J3 : Jt (nc_si (nc_si w3 242 1 N (nI k0)) 2 1 7 (w.1 2 1 7 ||| (if k0 = 2 then bs N else 0))) v4 b sz lim n (i + 1 + 1 + 1) := Jt_z ⟨b3, b4, c3, c4, b6, c5⟩ ((cZ.rf.si ⟨by decide, by decide, by decide, by decide⟩).si ⟨by decide, by decide, by decide, by decide⟩) mZ.rf
        have cf3 : cF (nc_si (nc_si (nc_sl w 236 1 (12 + N) (enc5 l)) 242 1 N (nI k0)) 2 1 7 (w.1 2 1 7 ||| (if k0 = 2 then bs N else 0))) (nc_si (nc_si w3 242 1 N (nI k0)) 2 1 7 (w.1 2 1 7 ||| (if k0 = 2 then bs N else 0))) := cF_si (cF_si (cf2.tr b2.cF) (by decide)) (by decide)
        have cr3 : cR w (nc_si (nc_si w3 242 1 N (nI k0)) 2 1 7 (w.1 2 1 7 ||| (if k0 = 2 then bs N else 0))) := ((cr2.tr b2.cR).si (by omega)).si (by omega)
        have mf3 : mF (nc_si (nc_sl v1 877 0 (22 + (12 + N)) (enc8 l)) 875 0 (37 + N) (nI k0)) v4 := (mF_si a4.mF (by decide)).tr c2.mF
        have mr3 : mR v v4 := (mr2.si).tr c2.mF.mR
        have cls : ∀ X : nc_H → Option nc_R, (if nI k0 ≠ 2 then X (nc_si w3 242 1 N (nI k0)) else nc_lt (nc_si (nc_si w3 242 1 N (nI k0)) 2 1 7 ((nc_si w3 242 1 N (nI k0)).1 2 1 7 ||| 1 <<< (nI N &&& 31))) X) = X (nc_si (nc_si w3 242 1 N (nI k0)) 2 1 7 (w.1 2 1 7 ||| (if k0 = 2 then bs N else 0))) := by
          intro X
          have kk2 : nI k0 = 2 ↔ k0 = 2 := nI_lit (by omega) 2 (by decide)
          by_cases q2 : k0 = 2
          · rw [if_neg (fun z => z (kk2.mpr q2)), nc_lt_v, w27, if_pos q2]
            rfl
          · rw [if_pos (fun z => q2 (kk2.mp z)), if_neg q2, Int32.or_zero, si_same w27.symm]
        generalize hW3 : nc_si (nc_si w3 242 1 N (nI k0)) 2 1 7 (w.1 2 1 7 ||| (if k0 = 2 then bs N else 0)) = W3 at J3 cf3 cr3 cls
        refine Exists.elim (?_ : ∃ r w' v', (nc_bI (nc_Call m_X10_nextNumber [tO, .inl 0, .inl 20] W3) fun r13 w12 =>
            if r13 ≠ 0 then
              nc_bd (nI N) 10 fun j14 =>
              nc_lt (nc_si w12 243 1 j14 (w12.1 10 0 12)) fun w15 =>
              nc_lt (nc_si w15 2 1 3 ((w15.1 2 1 3) + 1)) fun w16 =>
              nc_bV (nc_Call m_X10_next [tO] w16) fun w17 =>
              nc_bI (nc_Call m_X10_word [tO] w17) fun r19 w18 =>
              if r19 ≠ 3 then
                nc_bI (nc_Call m_X10_mustBeSign [tO, .inl 59] w18) fun r21 w20 =>
                nc_z r21 <| some (some (.inl r21), w20)
              else
                nc_lt (nc_si w18 2 1 6 ((w18.1 2 1 6) ||| (1 <<< (nI N &&& 31)))) fun w22 =>
                nc_bV (nc_Call m_X10_next [tO] w22) fun w23 =>
                nc_bI (nc_Call m_X10_mustBeSign [tO, .inl 59] w23) fun r25 w24 =>
                nc_z r25 <| some (some (.inl r25), w24)
            else
              (some (some (.inl 0), w12) : Option nc_R)) = some (some (.inl r), w') ∧ (∃ r1 v1, nc_Call m_X12_line [mO] v = some (some (.inl r1), v1) ∧ ((r1 = 0 ∧ r = 0 ∧ v' = v1) ∨ (r1 ≠ 0 ∧ nc_Call m_X12_sign [mO, .inl 59] v1 = some (some (.inl r), v')))) ∧ cR w w' ∧ mR v v' ∧ ((r = 0 ∧ FQ w' v') ∨ (r = 1 ∧ ∃ i' f C N h, i + 2 ≤ i' ∧ Jt w' v' b sz lim n i' ∧ DD w' v' f C N h))) (fun r hr => Exists.elim hr (fun w' hw => Exists.elim hw (fun v' hv => ⟨r, w', v', (cls _).trans hv.1, hv.2⟩)))
        rcases jt_puts (lo := 0) (hi := 20) (to := 47 + N) J3 (by decide) (by decide) (by omega) with ⟨w5, v5, d1, d2, d3, d4, d5⟩ | ⟨x, w5, v5, x1, x2, d1, d2, d3, d4, d5, J5⟩
        · have d1' : nc_Call m_X10_nextNumber [tO, .inl 0, .inl 20] W3 = some (some (.inl 0), w5) := d1
          have d2' : nc_Call m_X12_puts [mO, .inl (nI (47 + N)), .inl 0, .inl 20] v4 = some (some (.inl 0), v5) := d2
          rw [d2', nc_bI_v, if_neg (fun z => z rfl)] at hm0
          refine ⟨0, w5, v5, ?_, ⟨0, v5, hl0 0 v5 (Or.inl rfl) hm0, Or.inl ⟨rfl, rfl, rfl⟩⟩, cr3.tr d3.cR, mr3.tr d4.mR, Or.inl ⟨rfl, d5⟩⟩
          rw [d1', nc_bI_v, if_neg (fun z => z rfl)]
        · have d1' : nc_Call m_X10_nextNumber [tO, .inl 0, .inl 20] W3 = some (some (.inl 1), w5) := d1
          have d2' : nc_Call m_X12_puts [mO, .inl (nI (47 + N)), .inl 0, .inl 20] v4 = some (some (.inl 1), nc_si v5 875 0 (47 + N) (nI x)) := d2
          rw [d2', nc_bI_v, if_pos (by decide)] at hm0
          have cf5 := cF_si (t := 243) (a := 1) (k := N) (x := nI x) (cf3.tr d3) (by decide)
          have w23 : (nc_si w5 243 1 N (nI x)).1 2 1 3 = nI N := by
            rw [(cf5.1 2 1 (by omega)).1, si_t (by decide), si_k (by decide), si_t (by decide), sl_1]
            exact p8.1.2.1.2.2.1
          rw [d1', nc_bI_v, if_pos (by decide), bd8 N 10 q (by decide), d5, nc_lt_v, w23, nI_1, nc_lt_v]
          have cf6 := cF_si (t := 2) (a := 1) (k := 3) (x := nI (N + 1)) cf5 (by decide)
          have cr6 : cR w (nc_si (nc_si w5 243 1 N (nI x)) 2 1 3 (nI (N + 1))) := ((cr3.tr d3.cR).si (by omega)).si (by omega)
          have mf5 := mF_si (t := 875) (a := 0) (k := 47 + N) (x := nI x) (mf3.tr d4) (by decide)
          have mr5 : mR v (nc_si v5 875 0 (47 + N) (nI x)) := (mr3.tr d4.mR).si
          have J6 : Jt (nc_si (nc_si w5 243 1 N (nI x)) 2 1 3 (nI (N + 1))) (nc_si v5 875 0 (47 + N) (nI x)) b sz lim n (i + 1 + 1 + 1 + 1) := Jt_z J5 ((cZ.rf.si ⟨by decide, by decide, by decide, by decide⟩).si ⟨by decide, by decide, by decide, by decide⟩) mZ.rf
          have c26 : (nc_si (nc_si w5 243 1 N (nI x)) 2 1 3 (nI (N + 1))).1 2 1 6 = v1.1 875 0 57 := by
            rw [(cf6.1 2 1 (by omega)).1, si_k (by decide), si_t (by decide), si_k (by decide), si_t (by decide), sl_1]
            exact D1.1.2.1.2.2.2.2.2
          have c857 : (nc_si v5 875 0 (47 + N) (nI x)).1 875 0 57 = v1.1 875 0 57 := by
            rw [(mf5.1 875 0 (by omega)).1, si_k (by omega), si_k (by omega), sl_1]
          have c82 : (nc_si v5 875 0 (47 + N) (nI x)).1 875 0 2 = nI N := by
            rw [(mf5.1 875 0 (by omega)).1, si_k (by omega), si_k (by omega), sl_1]
            exact s1.2.2.1
          obtain ⟨e0, e1, e2⟩ := D1.2.2.1.2.2.2.2.2.2.2.1
          generalize nc_si (nc_si w5 243 1 N (nI x)) 2 1 3 (nI (N + 1)) = W6 at cf6 cr6 J6 c26
          generalize nc_si v5 875 0 (47 + N) (nI x) = V6 at mf5 mr5 J6 c857 c82 hm0
          obtain ⟨w7, f1, f2, f3, f4, f5, f6⟩ := jt_c J6
          have hk6 := Tk_ok (b := b) (sz := sz) (lim := lim) (i + 1 + 1 + 1 + 1)
          have M6 := J6.2.2.2.1
          rw [f1, nc_bV_v, sa_word f5 hk6, nc_bI_v]
          rw [wl_3, sm_wq (by decide) M6 hk6, nc_bI_v] at hm0
          have w24' := wq_le (t := Tk b sz lim (i + 1 + 1 + 1 + 1))
          by_cases q3 : wq (Tk b sz lim (i + 1 + 1 + 1 + 1)) = 3
          · -- a lie
            rw [tI_t q3, if_neg (by decide), nc_lt_v, c857] at hm0
            rw [q3, if_pos (show (3 : Nat) < 24 by decide), if_neg (fun z => z rfl), nc_lt_v, show w7.1 2 1 6 = v1.1 875 0 57 by rw [(f2.1 2 1 (by omega)).1]; exact c26]
            obtain ⟨e', y1, y2⟩ := or_bs q e1
            have ee : v1.1 875 0 57 ||| 1 <<< (nI N &&& 31) = nI e' := by
              rw [e2]
              exact y2
            rw [ee] at hm0 ⊢
            have z6 : mZ V6 (nc_si V6 875 0 57 (nI e')) := mZ.rf.si ⟨by decide, by decide⟩
            obtain ⟨v8, k1, k2, k3, k4, k5⟩ := jt_m (i := i + 1 + 1 + 1 + 1) (MS_z J6.2.2.1 z6) (MT_z M6 z6) (TW_z J6.2.2.2.2.2 z6.2.2.2.1 z6.2.2.2.2)
            have c82' : v8.1 875 0 2 = nI N := by
              rw [(k2.1 875 0 (by omega)).1, si_k (by decide)]
              exact c82
            rw [k1, nc_bV_v, c82', nI_1, nc_lt_v] at hm0
            have J8 : Jt (nc_si w7 2 1 6 (nI e')) (nc_si v8 875 0 2 (nI (N + 1))) b sz lim n (i + 1 + 1 + 1 + 1 + 1) := Jt_z ⟨f3, f4, k3, k4, f6, k5⟩ (cZ.rf.si ⟨by decide, by decide, by decide, by decide⟩) (mZ.rf.si ⟨by decide, by decide⟩)
            have D8 : DD (nc_si w7 2 1 6 (nI e')) (nc_si v8 875 0 2 (nI (N + 1))) f C (N + 1) h := DD_F (DD_news (k0 := k0) (x := x) (e := e') D1 q l1 l2 l3 (by omega) x2 y1) (cF_si (cf6.tr f2.cF) (by decide)) (mF_si ((mF_si mf5 (by decide)).tr k2.mF) (by decide))
            obtain ⟨r, w9, v9, m1, m2, m3, m4, m5⟩ := jt_close J8
            obtain ⟨w10, o1, -⟩ := jt_c J8
            refine ⟨r, w9, v9, ?_, ⟨1, _, hl0 1 _ (Or.inr rfl) hm0, Or.inr ⟨by decide, m2⟩⟩, ((cr6.tr f2.cR).si (by omega)).tr m3.cR, ((mr5.si).tr k2.mF.mR).si.tr m4.mR, ?_⟩
            · rw [o1, nc_bV_v, close_mb o1, m1]
            · rcases m5 with z | z
              · exact Or.inl z
              · exact Or.inr ⟨z.1, _, f, C, N + 1, h, by omega, z.2, DD_F D8 m3 m4⟩
          · -- no lie
            rw [tI_f q3, if_pos rfl, c82, nI_1, nc_lt_v] at hm0
            rw [if_pos (show (if wq (Tk b sz lim (i + 1 + 1 + 1 + 1)) < 24 then nI (wq (Tk b sz lim (i + 1 + 1 + 1 + 1))) else -1) ≠ (3 : Int32) by
              by_cases q24 : wq (Tk b sz lim (i + 1 + 1 + 1 + 1)) < 24
              · rw [if_pos q24]
                exact fun z => q3 ((nI_lit (by omega) 3 (by decide)).mp z)
              · rw [if_neg q24]
                decide)]
            have J8 : Jt W6 (nc_si V6 875 0 2 (nI (N + 1))) b sz lim n (i + 1 + 1 + 1 + 1) := Jt_z J6 cZ.rf (mZ.rf.si ⟨by decide, by decide⟩)
            have sW : nc_si W6 2 1 6 (nI e0) = W6 := si_same (by rw [c26, e2])
            have sV : nc_si V6 875 0 57 (nI e0) = V6 := si_same (by rw [c857, e2])
            have D8 : DD W6 (nc_si V6 875 0 2 (nI (N + 1))) f C (N + 1) h := by
              have := DD_F (DD_news (k0 := k0) (x := x) (e := e0) D1 q l1 l2 l3 (by omega) x2 (by rw [Nat.pow_succ]; omega)) (cF_si (t := 2) (a := 1) (k := 6) (x := nI e0) cf6 (by decide)) (mF_si (t := 875) (a := 0) (k := 2) (x := nI (N + 1)) (mF_si (t := 875) (a := 0) (k := 57) (x := nI e0) mf5 (by decide)) (by decide))
              rw [sW, sV] at this
              exact this
            obtain ⟨r, w9, v9, m1, m2, m3, m4, m5⟩ := jt_close J8
            refine ⟨r, w9, v9, ?_, ⟨1, _, hl0 1 _ (Or.inr rfl) hm0, Or.inr ⟨by decide, m2⟩⟩, cr6.tr m3.cR, mr5.si.tr m4.mR, ?_⟩
            · rw [close_mb f1, m1]
            · rcases m5 with z | z
              · exact Or.inl z
              · exact Or.inr ⟨z.1, _, f, C, N + 1, h, by omega, z.2, DD_F D8 m3 m4⟩
      · rw [if_neg qk, if_neg (by decide)] at hm0
        have mt : (nc_si v2 875 0 (37 + N) (-1)).1 12 0 12 = nI (Tk b sz lim (i + 1 + 1)).2.1 := by
          rw [si_t (by decide)]
          exact M2.2.1
        obtain ⟨w5, v5, f1, f2, f3, f4, f5⟩ := jt_fail (w := w3) (v := nc_si v2 875 0 (37 + N) (-1)) (t := Tk b sz lim (i + 1 + 1)) 1 b5.1 mt
        rw [f2, nc_bI_v, nc_z_0] at hm0
        refine ⟨0, w5, v5, ?_, ⟨0, v5, hl0 0 v5 (Or.inl rfl) hm0, Or.inl ⟨rfl, rfl, rfl⟩⟩, (cr2.tr b2.cR).tr f3.cR, mr2.si.tr f4.mR, Or.inl ⟨rfl, f5⟩⟩
        by_cases q24 : wq (Tk b sz lim (i + 1 + 1)) < 24
        · rw [if_pos q24]
          by_cases q4 : wq (Tk b sz lim (i + 1 + 1)) < 4
          · rw [if_pos (show nI (wq (Tk b sz lim (i + 1 + 1))) < (4 : Int32) from (nI_litlt (n := 4) (by omega) (by omega)).mpr q4), f1, nc_bI_v, nc_z_0]
          · rw [if_neg (show ¬ nI (wq (Tk b sz lim (i + 1 + 1))) < (4 : Int32) from fun z => q4 ((nI_litlt (n := 4) (by omega) (by omega)).mp z)), if_neg (show ¬ nI (wq (Tk b sz lim (i + 1 + 1))) ≤ (7 : Int32) from nI_ge (a := 7) (b := wq (Tk b sz lim (i + 1 + 1))) (by omega) (by omega)), f1, nc_bI_v, nc_z_0]
        · rw [if_neg q24, if_pos (by decide), f1, nc_bI_v, nc_z_0]
  · have hm0 : nc_Call m_X12_readNews [mO] v = nc_bI (nc_Call m_X12_bad [mO, .inl 4] v) fun r22 w21 => nc_z r22 <| some (some (.inl r22), w21) := by
      rw [qc_X12_readNews, s.2.2.1, nc_li_v, if_neg (fun z => (e10.mp z) (by omega))]
    rw [if_neg (show ¬ nI N < (10 : Int32) from fun z => q ((nI_litlt (n := 10) (by omega) (by omega)).mp z))]
    obtain ⟨w2, v2, a1, a2, a3, a4, a5⟩ := jt_fail (w := w) (v := v) (t := t) 4 p3.1 p6.2.1
    rw [a2, nc_bI_v, nc_z_0] at hm0
    refine ⟨0, w2, v2, ?_, ⟨0, v2, hl0 0 v2 (Or.inl rfl) hm0, Or.inl ⟨rfl, rfl, rfl⟩⟩, a3.cR, a4.mR, Or.inl ⟨rfl, a5⟩⟩
    rw [a1, nc_bI_v, nc_z_0]
end LF2
