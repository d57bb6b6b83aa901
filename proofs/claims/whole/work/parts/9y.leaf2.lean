/-! A sentence: ones that compare. -/
section SD
variable {w w' v v' : nc_H} {b : Nat → Nat} {sz lim n i : Nat} {t : Tok} {f C N T D m o dp : Nat} {bs : Nat → Int32}
theorem num999 (J : Jt w v b sz lim n i) : ((Tk b sz lim i).1 = 4 ∧ ∃ w1 x, x < 1000 ∧ nc_Call m_X10_nextNumber [tO, .inl 0, .inl 999] w = some (some (.inl 1), w1) ∧ cX w w1 ∧ Ja w1 v b sz lim n i ∧ w1.1 10 0 12 = nI x ∧ v.1 12 0 14 = nI x) ∨ ((Tk b sz lim i).1 ≠ 4 ∧ ∃ w1 v1, nc_Call m_X10_nextNumber [tO, .inl 0, .inl 999] w = some (some (.inl 0), w1) ∧ nc_Call m_X12_bad [mO, .inl 1] v = some (some (.inl 0), v1) ∧ cF w w1 ∧ mF v v1 ∧ FQ w1 v1) := by
  obtain ⟨w1, a1, a2, a3⟩ := Jt_a J
  have hk := Tk_ok (b := b) (sz := sz) (lim := lim) i
  have CTt := a3.2.2.1
  have MTt := a3.2.2.2.2.2.1
  by_cases q4 : (Tk b sz lim i).1 = 4
  · have hm := MTt.2.2.2.2 (Or.inl q4)
    have hc := CTt.2.2.2 (Or.inl q4)
    have hx := hk.2.2.2.2.1 q4
    refine Or.inl ⟨q4, w1, (Tk b sz lim i).2.2.2.1, hx, ?_, a2, a3, hc, hm⟩
    rw [qc_X10_nextNumber, a1, nc_bV_v, CTt.2.1, if_pos ((kc_4 hk).mpr q4), hc, if_neg (nI_pos (by omega)), if_pos (show nI _ ≤ (999 : Int32) from nI_le (b := 999) (by omega) (by omega))]
  · obtain ⟨w2, v2, f1, f2, f3, f4, f5⟩ := jt_fail (w := w1) (v := v) (t := Tk b sz lim i) 1 CTt.1 MTt.2.1
    refine Or.inr ⟨q4, w2, v2, ?_, f2, a2.cF.tr f3, f4, f5⟩
    rw [qc_X10_nextNumber, a1, nc_bV_v, CTt.2.1, if_neg (fun z => q4 ((kc_4 hk).mp z)), f1, nc_bI_v, nc_z_0]
theorem lf_cmp {k : Nat} (hk : 5 ≤ k ∧ k < 9) (J : Jt w v b sz lim n i) (E : EX w v bs T D m o dp N) (hd : dp + 1 ≤ o) (hm : m + 1 + (dp + 1) ≤ 2 * o) : LfR (PLN (nI (15 + k)) w) (MLF (nI k) v) w v b sz lim n i bs T D m o dp N := by
  have hm4 : m < 40 := by have := E.2.2.1.1; omega
  have zv : mZ v (nc_si v 12 0 44 1) := mZ.rf.sk (by decide)
  obtain ⟨w1, a1, a2, a3⟩ := Jt_a (Jt_z J cZ.rf zv)
  have hkk := Tk_ok (b := b) (sz := sz) (lim := lim) i
  have E1 : EX w1 (nc_si v 12 0 44 1) bs T D m o dp N := EX_F (EX_mk E (by omega)) a2.cF mF.rf
  have CTt := a3.2.2.1
  have MTt := a3.2.2.2.2.2.1
  generalize ht : Tk b sz lim i = t at hkk CTt MTt
  have sg : ∀ c, c < 256 → nc_Call m_X10_isSign [tO, .inl (nI c)] w1 = some (some (.inl (tI (t.1 = 5 ∧ t.2.2.2.1 = c))), w1) := fun c hc => sa_isSign CTt hkk hc
  have kk : k = 5 ∨ k = 6 ∨ k = 7 ∨ k = 8 := by omega
  have k17 : nI (15 + k) ≠ 17 := by rcases kk with rfl | rfl | rfl | rfl <;> decide
  have k18 : ¬ nI (15 + k) = 18 := by rcases kk with rfl | rfl | rfl | rfl <;> decide
  have k19 : nI (15 + k) ≠ 19 := by rcases kk with rfl | rfl | rfl | rfl <;> decide
  have k15 : ¬ nI (15 + k) = 15 := by rcases kk with rfl | rfl | rfl | rfl <;> decide
  have k16 : ¬ nI (15 + k) = 16 := by rcases kk with rfl | rfl | rfl | rfl <;> decide
  have k2 : (2 : Int32) ≤ nI k := by rcases kk with rfl | rfl | rfl | rfl <;> decide
  have k5 : (5 : Int32) ≤ nI k := by rcases kk with rfl | rfl | rfl | rfl <;> decide
  have PL := qc_X9_readPlainOne 1 0 0 (nI (15 + k)) w
  rw [if_pos k17, if_neg k18, if_pos k19, if_neg k15, if_neg k16, a1, nc_bV_v, nc_li_v, show (60 : Int32) = nI 60 from rfl, sg 60 (by decide), nc_bI_v] at PL
  by_cases q : t.1 = 5 ∧ 60 ≤ t.2.2.2.1 ∧ t.2.2.2.1 ≤ 62
  · -- a sign
    obtain ⟨q5, q6, q7⟩ := q
    have hc := CTt.2.2.2 (Or.inr q5)
    have hmv := MTt.2.2.2.2 (Or.inr q5)
    generalize hz : t.2.2.2.1 = z at q6 q7 hc hmv sg PL
    obtain ⟨v2, b1, b2, b3⟩ := Ja_m a3
    have PL2 : nc_Call m_X9_readPlainOne [sO, tO, .inr (.inr (2, 0)), .inl (nI (15 + k))] w = nc_bI (nc_Call m_X10_nextNumber [tO, .inl 0, .inl 999] w1) fun r12 w11 =>
              if r12 = 0 then
                nc_bV (nc_Call m_X9_put [sO, .inl (nI (15 + k)), .inl (nI z), .inl (-1)] w11) fun w13 =>
                some (some (.inl 0), w13)
              else
                nc_li (w11.1 10 0 12) fun x14 =>
                nc_bV (nc_Call m_X9_put [sO, .inl (nI (15 + k)), .inl (nI z), .inl x14] w11) fun w15 =>
                if x14 < 0 then
                  some (some (.inl 0), w15)
                else
                  some (some (.inl 1), w15) := by
      have hz3 : z = 60 ∨ z = 61 ∨ z = 62 := by omega
      rcases hz3 with rfl | rfl | rfl
      · rw [tI_t ⟨q5, rfl⟩, if_pos (by decide), hc] at PL
        exact PL
      · rw [tI_f (fun z => by omega), if_neg (fun z => z rfl), show (61 : Int32) = nI 61 from rfl, sg 61 (by decide), nc_bI_v, tI_t ⟨q5, rfl⟩, if_pos (by decide), hc] at PL
        exact PL
      · rw [tI_f (fun z => by omega), if_neg (fun z => z rfl), show (61 : Int32) = nI 61 from rfl, sg 61 (by decide), nc_bI_v, tI_f (fun z => by omega), if_neg (fun z => z rfl), show (62 : Int32) = nI 62 from rfl, sg 62 (by decide), nc_bI_v, tI_t ⟨q5, rfl⟩, if_pos (by decide), hc] at PL
        exact PL
    have m11 : ¬ (nc_si v 12 0 44 1).1 12 0 11 ≠ 3 := by
      rw [MTt.1]
      exact fun y => y ((km_i hkk).2.1.mpr q5)
    have m60 : ¬ nI z < (60 : Int32) := fun y => by have := (nI_litlt (c := z) (n := 60) (by omega) (by omega)).mp y; omega
    have m62 : nI z ≤ (62 : Int32) := nI_le (b := 62) (by omega) (by omega)
    have ML : MLF (nI k) v = if (v2.1 12 0 11) = 2 then
                      nc_bV (nc_Call m_X12_code [mO, .inl (nI k), .inl (nI z), .inl (v2.1 12 0 14)] v2) fun w20 =>
                      nc_bV (nc_Call m_X12_next [mO] w20) fun w21 =>
                      some (some (.inl 1), w21)
                    else
                      nc_bI (nc_Call m_X12_bad [mO, .inl 1] v2) fun r23 w22 =>
                      nc_z r23 <| some (some (.inl r23), w22) := by
      unfold MLF
      rw [nc_lt_v, if_pos k2, if_pos k5, if_neg m11, hmv, if_neg m60, if_pos m62, nc_li_v, b1, nc_bV_v]
    have hk2 := Tk_ok (b := b) (sz := sz) (lim := lim) (i + 1)
    have E2 : EX w1 v2 bs T D m o dp N := EX_F E1 cF.rf b2.mF
    rcases num999 b3 with ⟨q4, w3, x, x1, c1, c2, c3, c4, c5⟩ | ⟨q4, w3, v3, c1, c2, c3, c4, c5⟩
    · have E3 : EX w3 v2 bs T D m o dp N := EX_F E2 c2.cF mF.rf
      rw [c1, nc_bI_v, if_neg (by decide), nc_li_v, c4, sa_put E3.1.1 hm4, nc_bV_v, if_neg (nI_pos (by omega))] at PL2
      rw [if_pos (by rw [b3.2.2.2.1.1]; exact (km_i hk2).1.mpr q4), c5, sm_code E3.2.1.1 hm4, nc_bV_v] at ML
      have cr : codeR (nI (15 + k)) (nI z) (nI x) (nI k) (nI z) (nI x) N := by
        refine Or.inr (Or.inr (Or.inr ⟨k, by omega, rfl, rfl, fun _ => rfl, fun y => by omega, fun _ => ⟨rfl, rfl, ?_⟩⟩))
        have hz3 : z = 60 ∨ z = 61 ∨ z = 62 := by omega
        rcases hz3 with rfl | rfl | rfl
        · exact Or.inl rfl
        · exact Or.inr (Or.inl rfl)
        · exact Or.inr (Or.inr rfl)
      have st : stp (nI k) dp (dp + 1) := by
        rcases kk with rfl | rfl | rfl | rfl <;> exact Or.inr (Or.inr ⟨by decide, by decide, by decide, rfl⟩)
      have E4 := EX_cod E3 cr st hd hm
      have J4 : Ja (wPut w3 m (nI (15 + k)) (nI z) (nI x)) (vCod v2 m (nI k) (nI z) (nI x)) b sz lim n (i + 1) := Ja_z c3 wPut_Z vCod_Z
      obtain ⟨v4, d1, d2, d3⟩ := Ja_m J4
      obtain ⟨w4, e1, e2, e3⟩ := Jt_a d3
      rw [d1, nc_bV_v] at ML
      refine ⟨1, w4, v4, ?_, ML, ((a2.cF.tr c2.cF).cS.tr wPut_S).tr e2.cF.cS, (((mS.rf.sk (by omega)).tr b2.mF.mS).tr vCod_S).tr d2.mF.mS, Or.inr ⟨rfl, i + 1 + 1, ?_, e3, EX_F E4 e2.cF d2.mF⟩⟩
      · unfold PLN
        rw [PL2, nc_bI_v, if_pos (by decide), e1, nc_bV_v]
      · rw [d2.2.1 44 (by omega), vCod_k (by decide), b2.2.1 44 (by omega), si_s]
    · rw [c1, nc_bI_v, if_pos rfl, sa_put (m := m) (by rw [(c3.1 9 1 (by omega)).1]; exact E1.1.1) hm4, nc_bV_v] at PL2
      rw [if_neg (by rw [b3.2.2.2.1.1]; exact fun y => q4 ((km_i hk2).1.mp y)), c2, nc_bI_v, nc_z_0] at ML
      refine ⟨0, wPut w3 m (nI (15 + k)) (nI z) (-1), v3, ?_, ML, (a2.cF.tr c3).cS.tr wPut_S, ((mS.rf.sk (by omega)).tr b2.mF.mS).tr c4.mS, Or.inl ⟨rfl, ?_⟩⟩
      · unfold PLN
        rw [PL2, nc_bI_v, if_neg (fun y => y rfl)]
      · have e10 : (wPut w3 m (nI (15 + k)) (nI z) (-1)).1 10 0 = w3.1 10 0 := wPut_Z.1
        unfold FQ
        rw [e10]
        exact c5
  · -- none
    obtain ⟨w2, v2, f1, f2, f3, f4, f5⟩ := jt_fail (w := w1) (v := nc_si v 12 0 44 1) (t := t) 1 CTt.1 MTt.2.1
    rw [tI_f (fun z => q ⟨z.1, by omega, by omega⟩), if_neg (fun z => z rfl), show (61 : Int32) = nI 61 from rfl, sg 61 (by decide), nc_bI_v, tI_f (fun z => q ⟨z.1, by omega, by omega⟩), if_neg (fun z => z rfl), show (62 : Int32) = nI 62 from rfl, sg 62 (by decide), nc_bI_v, tI_f (fun z => q ⟨z.1, by omega, by omega⟩), if_neg (fun z => z rfl), f1, nc_bI_v, nc_z_0] at PL
    refine ⟨0, w2, v2, ?_, ?_, (a2.cF.tr f3).cS, (mS.rf.sk (by omega)).tr f4.mS, Or.inl ⟨rfl, f5⟩⟩
    · unfold PLN
      rw [PL, nc_bI_v, if_neg (fun z => z rfl)]
    · unfold MLF
      rw [nc_lt_v, if_pos k2, if_pos k5, MTt.1]
      by_cases q5 : t.1 = 5
      · have hmv := MTt.2.2.2.2 (Or.inr q5)
        have hs := sgB_t.mp (hkk.2.2.2.2.2 q5)
        rw [if_neg (fun y => y ((km_i hkk).2.1.mpr q5)), hmv]
        by_cases ql : t.2.2.2.1 < 60
        · rw [if_pos (show nI _ < (60 : Int32) from (nI_litlt (n := 60) (by omega) (by omega)).mpr ql), f2, nc_bI_v, nc_z_0]
        · rw [if_neg (show ¬ nI _ < (60 : Int32) from fun y => ql ((nI_litlt (n := 60) (by omega) (by omega)).mp y)), if_neg (show ¬ nI _ ≤ (62 : Int32) from fun y => q ⟨q5, by omega, (nI_le_iff (b := 62) (by omega) (by omega)).mp y⟩), f2, nc_bI_v, nc_z_0]
      · rw [if_pos (fun y => q5 ((km_i hkk).2.1.mp y)), f2, nc_bI_v, nc_z_0]
theorem lf_any {k : Nat} (hk : k < 9) (J : Jt w v b sz lim n i) (Nm : NS w v f C N) (E : EX w v bs T D m o dp N) (hd : dp + 1 ≤ o) (hm : m + 1 + (dp + 1) ≤ 2 * o) : LfR (PLN (nI (15 + k)) w) (MLF (nI k) v) w v b sz lim n i bs T D m o dp N := by
  by_cases q : k < 2
  · exact lf_dry q J E hd hm
  · by_cases q2 : k < 5
    · exact lf_name (by omega) J Nm E hd hm
    · exact lf_cmp (by omega) J E hd hm
end SD
