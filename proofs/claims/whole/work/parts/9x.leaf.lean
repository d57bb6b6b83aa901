/-! A sentence: ones that are no more than told. -/
section SC
variable {w w' v v' : nc_H} {b : Nat → Nat} {sz lim n i : Nat} {t : Tok} {f C N T D m o dp : Nat} {bs : Nat → Int32}
theorem EX_one (h : EX w v bs T D m o dp N) (ho : o < 20) : EX (nc_si w 9 1 4 (nI (o + 1))) (nc_si v 12 0 41 (nI (o + 1))) bs T D m (o + 1) dp N := by
  obtain ⟨⟨a1, a2⟩, ⟨b1, b2, b3, b4⟩, c, d, e⟩ := h
  refine ⟨⟨?_, si_s⟩, ⟨?_, si_s, ?_, ?_⟩, ⟨by omega, by omega, by omega⟩, CD_eq d (by rw [si_t (by decide)]) (by rw [si_t (by decide)]) (by rw [si_t (by decide)]) (by rw [si_t (by decide)]), fun j hj => ?_⟩
  · rw [si_k (by decide)]; exact a1
  · rw [si_k (by decide)]; exact b1
  · rw [si_k (by decide)]; exact b3
  · rw [si_k (by decide)]; exact b4
  · rw [si_t (by decide)]; exact e j hj
theorem EX_mk {k : Nat} {x : Int32} (h : EX w v bs T D m o dp N) (hk : k < 40 ∨ k = 44) : EX w (nc_si v 12 0 k x) bs T D m o dp N := by
  obtain ⟨a, ⟨b1, b2, b3, b4⟩, c, d, e⟩ := h
  refine ⟨a, ⟨?_, ?_, ?_, ?_⟩, c, CD_eq d rfl rfl rfl (by rw [si_t (by decide)]), fun j hj => ?_⟩
  · rw [si_k (by omega)]; exact b1
  · rw [si_k (by omega)]; exact b2
  · rw [si_k (by omega)]; exact b3
  · rw [si_k (by omega)]; exact b4
  · rw [si_t (by decide)]; exact e j hj
noncomputable abbrev sO : nc_V := .inr (.inr (9, 1))
/-- the class's way with a plain one -/
noncomputable def PLN (x : Int32) (w : nc_H) : Option nc_R := nc_bI (nc_Call m_X9_readPlainOne [sO, tO, .inr (.inr (2, 0)), .inl x] w) fun r9 w8 =>
            if r9 ≠ 0 then
              nc_bV (nc_Call m_X10_next [tO] w8) fun w10 =>
              some (some (.inl 1), w10)
            else
              some (some (.inl 0), w8)
/-- the model's, behind its next -/
noncomputable def MLF (xd : Int32) (w4 : nc_H) : Option nc_R := 
          nc_lt (nc_si w4 12 0 44 1) fun w13 =>
          if (2 : Int32) ≤ xd then
            if (5 : Int32) ≤ xd then
              if (w13.1 12 0 11) ≠ 3 then
                nc_bI (nc_Call m_X12_bad [mO, .inl 1] w13) fun r15 w14 =>
                nc_z r15 <| some (some (.inl r15), w14)
              else
                if (w13.1 12 0 14) < 60 then
                  nc_bI (nc_Call m_X12_bad [mO, .inl 1] w13) fun r17 w16 =>
                  nc_z r17 <| some (some (.inl r17), w16)
                else
                  if (w13.1 12 0 14) ≤ 62 then
                    nc_li (w13.1 12 0 14) fun x18 =>
                    nc_bV (nc_Call m_X12_next [mO] w13) fun w19 =>
                    if (w19.1 12 0 11) = 2 then
                      nc_bV (nc_Call m_X12_code [mO, .inl xd, .inl x18, .inl (w19.1 12 0 14)] w19) fun w20 =>
                      nc_bV (nc_Call m_X12_next [mO] w20) fun w21 =>
                      some (some (.inl 1), w21)
                    else
                      nc_bI (nc_Call m_X12_bad [mO, .inl 1] w19) fun r23 w22 =>
                      nc_z r23 <| some (some (.inl r23), w22)
                  else
                    nc_bI (nc_Call m_X12_bad [mO, .inl 1] w13) fun r25 w24 =>
                    nc_z r25 <| some (some (.inl r25), w24)
            else
              if xd ≠ 2 then
                  nc_bI (nc_Call m_X12_looksAt [mO, .inl 12, .inl (w13.1 874 0 2)] w13) fun r27 w26 =>
                  if r27 ≠ 0 then
                    nc_bV (nc_Call m_X12_code [mO, .inl xd, .inl 0, .inl (w26.1 12 0 18)] w26) fun w28 =>
                    nc_bV (nc_Call m_X12_next [mO] w28) fun w29 =>
                    some (some (.inl 1), w29)
                  else
                    some (some (.inl 0), w26)
              else
                  nc_bI (nc_Call m_X12_looksAt [mO, .inl 0, .inl (w13.1 874 0 0)] w13) fun r39 w38 =>
                  if r39 ≠ 0 then
                    nc_bV (nc_Call m_X12_code [mO, .inl xd, .inl 0, .inl (w38.1 12 0 18)] w38) fun w40 =>
                    nc_bV (nc_Call m_X12_next [mO] w40) fun w41 =>
                    some (some (.inl 1), w41)
                  else
                    some (some (.inl 0), w38)
          else
            nc_bV (nc_Call m_X12_code [mO, .inl xd, .inl 0, .inl 0] w13) fun w42 =>
            some (some (.inl 1), w42)
/-- what comes of it -/
def LfR (A B : Option nc_R) (w v : nc_H) (b : Nat → Nat) (sz lim n i : Nat) (bs : Nat → Int32) (T D m o dp N : Nat) : Prop := ∃ r w' v', A = some (some (.inl r), w') ∧ B = some (some (.inl r), v') ∧ cS w w' ∧ mS v v' ∧ ((r = 0 ∧ FQ w' v') ∨ (r = 1 ∧ ∃ i', v'.1 12 0 44 = 1 ∧ Ja w' v' b sz lim n i' ∧ EX w' v' bs T D (m + 1) o (dp + 1) N))
theorem lf_dry {k : Nat} (hk : k < 2) (J : Jt w v b sz lim n i) (E : EX w v bs T D m o dp N) (hd : dp + 1 ≤ o) (hm : m + 1 + (dp + 1) ≤ 2 * o) : LfR (PLN (nI (15 + k)) w) (MLF (nI k) v) w v b sz lim n i bs T D m o dp N := by
  have hm4 : m < 40 := by have := E.2.2.1.1; omega
  have E1 : EX w (nc_si v 12 0 44 1) bs T D m o dp N := EX_mk E (by omega)
  have pc := sa_put (x := nI (15 + k)) (y := 0) (z := 0) E.1.1 hm4
  have mc := sm_code (x := nI k) (y := 0) (z := 0) E1.2.1.1 hm4
  have cr : codeR (nI (15 + k)) 0 0 (nI k) 0 0 N := Or.inr (Or.inr (Or.inr ⟨k, by omega, rfl, rfl, by omega, by omega, by omega⟩))
  have kk : k = 0 ∨ k = 1 := by omega
  have st : stp (nI k) dp (dp + 1) := by
    rcases kk with rfl | rfl
    · exact Or.inr (Or.inr ⟨by decide, by decide, by decide, rfl⟩)
    · exact Or.inr (Or.inr ⟨by decide, by decide, by decide, rfl⟩)
  have E2 := EX_cod E1 cr st hd hm
  have J2 : Jt (wPut w m (nI (15 + k)) 0 0) (vCod (nc_si v 12 0 44 1) m (nI k) 0 0) b sz lim n i := Jt_z J wPut_Z ((mZ.rf.sk (by decide)).tr vCod_Z)
  obtain ⟨w1, a1, a2, a3⟩ := Jt_a J2
  have ps : nc_Call m_X9_readPlainOne [sO, tO, .inr (.inr (2, 0)), .inl (nI (15 + k))] w = some (some (.inl 1), wPut w m (nI (15 + k)) 0 0) := by
    rcases kk with rfl | rfl
    · rw [qc_X9_readPlainOne, if_pos (by decide), if_neg (by decide), if_pos (by decide), if_pos (by decide), pc, nc_bV_v]
    · rw [qc_X9_readPlainOne, if_pos (by decide), if_neg (by decide), if_pos (by decide), if_neg (by decide), if_pos (by decide), pc, nc_bV_v]
  refine ⟨1, w1, vCod (nc_si v 12 0 44 1) m (nI k) 0 0, ?_, ?_, wPut_S.tr a2.cF.cS, (mS.rf.sk (by omega)).tr vCod_S, Or.inr ⟨rfl, i, ?_, a3, EX_F E2 a2.cF mF.rf⟩⟩
  · unfold PLN
    rw [ps, nc_bI_v, if_pos (by decide), a1, nc_bV_v]
  · unfold MLF
    rw [nc_lt_v, if_neg (by rcases kk with rfl | rfl <;> decide), mc, nc_bV_v]
  · rw [vCod_k (by decide), si_s]
theorem lf_name {k : Nat} (hk : k = 2 ∨ k = 3 ∨ k = 4) (J : Jt w v b sz lim n i) (Nm : NS w v f C N) (E : EX w v bs T D m o dp N) (hd : dp + 1 ≤ o) (hm : m + 1 + (dp + 1) ≤ 2 * o) : LfR (PLN (nI (15 + k)) w) (MLF (nI k) v) w v b sz lim n i bs T D m o dp N := by
  have hm4 : m < 40 := by have := E.2.2.1.1; omega
  have zv : mZ v (nc_si v 12 0 44 1) := mZ.rf.sk (by decide)
  obtain ⟨w1, a1, a2, a3⟩ := Jt_a (Jt_z J cZ.rf zv)
  have hkk := Tk_ok (b := b) (sz := sz) (lim := lim) i
  have E1 : EX w1 (nc_si v 12 0 44 1) bs T D m o dp N := EX_F (EX_mk E (by omega)) a2.cF mF.rf
  have N1 : NS w1 (nc_si v 12 0 44 1) f C N := NS_z Nm (a2.1 236 0 (by omega)).2 rfl (by rw [si_t (by decide)])
  -- the name, in both sorts
  have key : ∀ (fs sl mn : Nat), srt f C N fs sl mn → ((k = 2 ∧ fs = 0 ∧ sl = 4 ∧ mn = f) ∨ (k ≠ 2 ∧ fs = 12 ∧ sl = 10 ∧ mn = N)) → LfR (PLN (nI (15 + k)) w) (MLF (nI k) v) w v b sz lim n i bs T D m o dp N := by
    intro fs sl mn hs hq
    have hmn : mn ≤ 10 := by have := N1.2.1; have := N1.2.2.2.1; omega
    have PL : ∀ (r : Int32) (w2 : nc_H), nc_Call m_X2_named [.inr (.inr (2, 0)), tO, .inl (nI fs), .inl (nI sl)] w1 = some (some (.inl r), w2) → w2.1 9 1 3 = nI m → nc_Call m_X9_readPlainOne [sO, tO, .inr (.inr (2, 0)), .inl (nI (15 + k))] w = if r < 0 then some (some (.inl 0), wPut w2 m (nI (15 + k)) 0 r) else some (some (.inl 1), wPut w2 m (nI (15 + k)) 0 r) := by
      intro r w2 h1 h2
      rcases hq with ⟨rfl, rfl, rfl, rfl⟩ | ⟨kn, rfl, rfl, rfl⟩
      · have h1' : nc_Call m_X2_named [.inr (.inr (2, 0)), tO, .inl 0, .inl 4] w1 = some (some (.inl r), w2) := h1
        rw [qc_X9_readPlainOne, if_neg (by decide), a1, nc_bV_v, h1', nc_bI_v, sa_put h2 hm4, nc_bV_v]
      · have h1' : nc_Call m_X2_named [.inr (.inr (2, 0)), tO, .inl 12, .inl 10] w1 = some (some (.inl r), w2) := h1
        have k34 : k = 3 ∨ k = 4 := by omega
        rcases k34 with rfl | rfl
        · rw [qc_X9_readPlainOne, if_pos (by decide), if_pos (by decide), a1, nc_bV_v, h1', nc_bI_v, sa_put h2 hm4, nc_bV_v]
        · rw [qc_X9_readPlainOne, if_pos (by decide), if_neg (by decide), if_neg (by decide), a1, nc_bV_v, h1', nc_bI_v, sa_put h2 hm4, nc_bV_v]
    have ML : ∀ (r : Int32) (v2 : nc_H), nc_Call m_X12_looksAt [mO, .inl (nI (0 + fs)), .inl (nI mn)] (nc_si v 12 0 44 1) = some (some (.inl r), v2) → MLF (nI k) v = if r ≠ 0 then nc_bV (nc_Call m_X12_code [mO, .inl (nI k), .inl 0, .inl (v2.1 12 0 18)] v2) (fun w28 => nc_bV (nc_Call m_X12_next [mO] w28) fun w29 => some (some (.inl 1), w29)) else some (some (.inl 0), v2) := by
      intro r v2 h1
      unfold MLF
      rcases hq with ⟨rfl, rfl, rfl, rfl⟩ | ⟨kn, rfl, rfl, rfl⟩
      · have h1' : nc_Call m_X12_looksAt [mO, .inl 0, .inl (nI mn)] (nc_si v 12 0 44 1) = some (some (.inl r), v2) := h1
        rw [nc_lt_v, if_pos (by decide), if_neg (by decide), if_neg (fun z => z rfl), N1.2.2.2.2.1, h1', nc_bI_v]
      · have h1' : nc_Call m_X12_looksAt [mO, .inl 12, .inl (nI mn)] (nc_si v 12 0 44 1) = some (some (.inl r), v2) := h1
        have k34 : k = 3 ∨ k = 4 := by omega
        rcases k34 with rfl | rfl
        · rw [nc_lt_v, if_pos (by decide), if_neg (by decide), if_pos (by decide), N1.2.2.2.2.2.2, h1', nc_bI_v]
        · rw [nc_lt_v, if_pos (by decide), if_neg (by decide), if_pos (by decide), N1.2.2.2.2.2.2, h1', nc_bI_v]
    rcases jt_looks (dn := 0) (B := 0) a3.2.2.1 a3.2.2.2.2.2.1 hkk a3.2.2.2.2.2.2 N1.1 N1.2.1 N1.2.2.1 N1.2.2.2.1 (by decide) hs with ⟨g, v2, c1, c2, c3, c4⟩ | ⟨w2, v2, c1, c2, c3, c4, c5⟩
    · have p1 := PL _ _ c2 E1.1.1
      rw [if_neg (nI_pos (by omega))] at p1
      have m1 := ML _ _ c3
      have E2 : EX w1 v2 bs T D m o dp N := by rw [c4]; exact EX_mk E1 (by omega)
      have z2 : mZ (nc_si v 12 0 44 1) v2 := by rw [c4]; exact mZ.rf.sk (by decide)
      have g18 : v2.1 12 0 18 = nI g := by rw [c4, si_s]
      rw [if_pos (by decide), g18, sm_code E2.2.1.1 hm4, nc_bV_v] at m1
      have cr : codeR (nI (15 + k)) 0 (nI g) (nI k) 0 (nI g) N := by
        refine Or.inr (Or.inr (Or.inr ⟨k, by omega, rfl, rfl, fun _ => rfl, fun q => ⟨rfl, g, ?_, rfl⟩, by omega⟩))
        omega
      have st : stp (nI k) dp (dp + 1) := by
        rcases hk with rfl | rfl | rfl <;> exact Or.inr (Or.inr ⟨by decide, by decide, by decide, rfl⟩)
      have E3 := EX_cod E2 cr st hd hm
      have J3 : Ja (wPut w1 m (nI (15 + k)) 0 (nI g)) (vCod v2 m (nI k) 0 (nI g)) b sz lim n i := Ja_z a3 wPut_Z (z2.tr vCod_Z)
      obtain ⟨v3, d1, d2, d3⟩ := Ja_m J3
      obtain ⟨w3, e1, e2, e3⟩ := Jt_a d3
      rw [d1, nc_bV_v] at m1
      have s2 : mS (nc_si v 12 0 44 1) v2 := by rw [c4]; exact mS.rf.sk (by omega)
      refine ⟨1, w3, v3, ?_, m1, (a2.cF.cS.tr wPut_S).tr e2.cF.cS, (((mS.rf.sk (by omega)).tr s2).tr vCod_S).tr d2.mF.mS, Or.inr ⟨rfl, i + 1, ?_, e3, EX_F E3 e2.cF d2.mF⟩⟩
      · unfold PLN
        rw [p1, nc_bI_v, if_pos (by decide), e1, nc_bV_v]
      · rw [d2.2.1 44 (by omega), vCod_k (by decide), c4, si_k (by decide), si_s]
    · have p1 := PL _ _ c1 (by rw [(c3.1 9 1 (by omega)).1]; exact E1.1.1)
      rw [if_pos (by decide)] at p1
      have m1 := ML _ _ c2
      rw [if_neg (fun z => z rfl)] at m1
      refine ⟨0, wPut w2 m (nI (15 + k)) 0 (-1), v2, ?_, m1, (a2.cF.tr c3).cS.tr wPut_S, (mS.rf.sk (by omega)).tr c4.mS, Or.inl ⟨rfl, ?_⟩⟩
      · unfold PLN
        rw [p1, nc_bI_v, if_neg (fun z => z rfl)]
      · have e10 : (wPut w2 m (nI (15 + k)) 0 (-1)).1 10 0 = w2.1 10 0 := wPut_Z.1
        unfold FQ
        rw [e10]
        exact c5
  by_cases q2 : k = 2
  · exact key 0 4 f (srt_f N1.2.1) (Or.inl ⟨q2, rfl, rfl, rfl⟩)
  · exact key 12 10 N (srt_n N1.2.1 N1.2.2.1 N1.2.2.2.1) (Or.inr ⟨q2, rfl, rfl, rfl⟩)
end SC
