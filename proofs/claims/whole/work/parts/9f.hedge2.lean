/-! Lines: hedges, as they are read. -/
section LI2
variable {w w' v v' : nc_H} {b : Nat → Nat} {sz lim n i : Nat} {t : Tok} {f C N h : Nat} {S S' : Nat → Int32}
theorem ln_hedge (P : Pr w v b sz lim n i t f C N h) (hq : wq t = 8) : LQ w v (nc_Call m_X3_readHedge [.inr (.inr (3, 0))] w) b sz lim n i := by
  obtain ⟨v1, g1, g2, J1, D1⟩ := Pr_next P
  obtain ⟨p1, p2, p3, p4, p5, p6, p7, p8, p9, p10⟩ := P
  have s := p8.1.1
  have s1 := D1.1.1
  have hf : f ≤ 4 := s.2.2.2.2.1
  have hC8 : C ≤ 8 := s.2.2.2.2.2.1
  have hN : N ≤ 10 := s.2.2.2.2.2.2.1
  have hh : h ≤ 6 := s.2.2.2.2.2.2.2
  have hl0 : ∀ r v', (r = 0 ∨ r = 1) → nc_Call m_X12_readHedge [mO] v = some (some (.inl r), v') → nc_Call m_X12_line [mO] v = some (some (.inl r), v') := by
    intro r v' hr hv
    rw [qc_X12_line, wl_0, sm_wq (by decide) p6 p10, nc_bI_v, tI_f (by omega), if_pos rfl, wl_1, sm_wq (by decide) p6 p10, nc_bI_v, tI_f (by omega), if_pos rfl, wl_2, sm_wq (by decide) p6 p10, nc_bI_v, tI_f (by omega), if_pos rfl, wl_8, sm_wq (by decide) p6 p10, nc_bI_v, tI_t hq, if_neg (by decide), hv, nc_bI_v, nc_z_of hr]
  have hm0 := qc_X12_readHedge 0 v
  rw [s.2.2.2.1, nc_li_v, g1, nc_bV_v, s1.1] at hm0
  unfold LQ LN
  obtain ⟨w1, b1, b2, b3⟩ := jt_named (dn := 1) (B := 22) J1 D1.2.1.2.2 hf hC8 hN (by decide) (srt_f hf)
  rw [qc_X3_readHedge, b1, nc_bV_v]
  rcases b3 with ⟨a, v2, c1, c2, c3, c4, c5, J2⟩ | ⟨w4, v3, c2, c3, c4, c5, c6⟩
  · have c2' : nc_Call m_X2_named [.inr (.inr (2, 1)), tO, .inl 0, .inl 4] w1 = some (some (.inl (nI a)), w1) := c2
    have c3' : nc_Call m_X12_takesName [mO, .inl 22, .inl (nI f)] v1 = some (some (.inl 1), v2) := c3
    have e875 : v2.1 875 0 = v1.1 875 0 := (c4.1 875 0 (by omega)).1
    rw [c3', nc_bI_v, if_pos (by decide), c5, nc_li_v, e875, s1.1] at hm0
    rw [c2', nc_bI_v, if_pos (show (0 : Int32) ≤ nI a from nI_le (a := 0) (Nat.zero_le _) (by omega))]
    obtain ⟨w3, d1, d2, d3, d4, d5, d6⟩ := jt_c J2
    have hk2 := Tk_ok (b := b) (sz := sz) (lim := lim) (i + 1 + 1)
    have M2 := J2.2.2.2.1
    rw [d1, nc_bV_v]
    have cf3 : cF w w3 := b2.cF.tr d2.cF
    have mf2 : mF v1 v2 := c4
    have mr2 : mR v v2 := g2.mF.mR.tr c4.mR
    have D2 : DD w3 v2 f C N h := DD_F D1 cf3 mf2
    rcases jt_looks (dn := 1) (B := 22) d5 M2 hk2 J2.2.2.2.2.2 D2.2.1.2.2 hf hC8 hN (by decide) (srt_f hf) with ⟨g, v3, y1, y2, y3, y4⟩ | ⟨w4, v3, y2, y3, y4, y5, y6⟩
    · have y2' : nc_Call m_X2_named [.inr (.inr (2, 1)), tO, .inl 0, .inl 4] w3 = some (some (.inl (nI g)), w3) := y2
      have y3' : nc_Call m_X12_looksAt [mO, .inl 22, .inl (nI f)] v2 = some (some (.inl 1), v3) := y3
      have e18 : v3.1 12 0 18 = nI g := by rw [y4, si_s]
      have z3 : mZ v2 v3 := by rw [y4]; exact mZ.rf.sk (by decide)
      have mf3 : mF v2 v3 := by rw [y4]; exact mF.rf.si (by omega)
      have e875' : v3.1 875 0 = v1.1 875 0 := (mf3.1 875 0 (by omega)).1.trans e875
      rw [y3', nc_bI_v, if_pos (by decide), e18] at hm0
      rw [y2', nc_bI_v, if_pos (show (0 : Int32) ≤ nI g from nI_le (a := 0) (Nat.zero_le _) (by omega)), D2.1.2.1.2.2.2.1, nc_li_v]
      have eag : nI a = nI g ↔ a = g := nI_eq (by omega) (by omega)
      have M3 := MT_z M2 z3
      obtain ⟨wf, vf, f1, f2, f3, f4, f5⟩ := jt_fail (w := w3) (v := v3) (t := Tk b sz lim (i + 1 + 1)) 3 d5.1 M3.2.1
      have mr3 : mR v v3 := mr2.tr mf3.mR
      have fin : nc_Call m_X12_readHedge [mO] v = some (some (.inl 0), vf) → (∃ r1 v1, nc_Call m_X12_line [mO] v = some (some (.inl r1), v1) ∧ ((r1 = 0 ∧ (0 : Int32) = 0 ∧ vf = v1) ∨ (r1 ≠ 0 ∧ nc_Call m_X12_sign [mO, .inl 59] v1 = some (some (.inl 0), vf)))) := fun z => ⟨0, vf, hl0 0 vf (Or.inl rfl) z, Or.inl ⟨rfl, rfl, rfl⟩⟩
      have run0 : ∀ x : Int32, (x = 0 ∨ x = 1) → ∃ x', (x' = 0 ∨ x' = 1) ∧ nc_Run m_X12_readHedge 67 [some mO, some (.inl (nI h)), some (.inl (nI a)), some (.inl x), some (.inl 0)] [] v3 = nc_Run m_X12_readHedge 67 [some mO, some (.inl (nI h)), some (.inl (nI a)), some (.inl x'), some (.inl (nI h))] [] v3 ∧ (x' = 1 ↔ x = 1 ∧ ∀ k, k < h → ¬ pq (v1.1 875 0) (nI a) (nI g) k) := by
        intro x hx
        obtain ⟨x', u1, u2, u3⟩ := sm_hedges (v := v3) (A := nI a) hh h 0 x (by omega) hx
        rw [e18, e875'] at u3
        exact ⟨x', u1, u2, u3.trans ⟨fun z => ⟨z.1, fun k hk => z.2 k (Nat.zero_le _) hk⟩, fun z => ⟨z.1, fun k _ hk => z.2 k hk⟩⟩⟩
      have out0 : nc_Run m_X12_readHedge 67 [some mO, some (.inl (nI h)), some (.inl (nI a)), some (.inl 0), some (.inl (nI h))] [] v3 = some (some (.inl 0), vf) := by
        rw [qr_X12_readHedge_67, if_pos (Int32.le_refl _), if_neg (fun z => z rfl), f2, nc_bI_v, nc_z_0]
      by_cases q : a = g
      · rw [if_pos (eag.mpr q)]
        rw [if_pos (eag.mpr q).symm] at hm0
        obtain ⟨x', u1, u2, u3⟩ := run0 0 (Or.inl rfl)
        have x0 : x' = 0 := u1.resolve_right (fun z => absurd (u3.mp z).1 (by decide))
        subst x0
        refine ⟨0, wf, vf, ?_, fin (hm0.trans (u2.trans out0)), cf3.cR.tr f3.cR, mr3.tr f4.mR, Or.inl ⟨rfl, f5⟩⟩
        rw [f1, nc_bI_v, nc_z_0]
      · rw [if_neg (fun z => q (eag.mp z))]
        rw [if_neg (fun z => q (eag.mp z.symm))] at hm0
        obtain ⟨x', u1, u2, u3⟩ := run0 1 (Or.inr rfl)
        have hD3 : DR w3 1 (v1.1 875 0) f C N h := by
          have := D2.1
          rw [e875] at this
          exact this
        rcases sd_hasHedge hD3 (fun z => q (eag.mp z)) with ⟨⟨k, k1, k2⟩, k3⟩ | ⟨k2, k3⟩
        · have x0 : x' = 0 := u1.resolve_right (fun z => (u3.mp z).2 k k1 k2)
          subst x0
          refine ⟨0, wf, vf, ?_, fin (hm0.trans (u2.trans out0)), cf3.cR.tr f3.cR, mr3.tr f4.mR, Or.inl ⟨rfl, f5⟩⟩
          rw [k3, nc_bI_v, if_pos (by decide), f1, nc_bI_v, nc_z_0]
        · have x0 : x' = 1 := u3.mpr ⟨rfl, k2⟩
          subst x0
          have h6 : h < 6 := (PP_new (S' := v1.1 875 0) D1.2.2.2.1 (show a < 4 by omega) (show g < 4 by omega) q k2).1
          have hm1 := hm0.trans u2
          have b58 : ∀ {X : Nat → Option nc_R}, nc_bd (58 + nI h) 76 X = X (58 + h) := nc_bd_of _ (nI_add 58 h) (by omega) (by decide)
          have b64 : ∀ {X : Nat → Option nc_R}, nc_bd (64 + nI h) 76 X = X (64 + h) := nc_bd_of _ (nI_add 64 h) (by omega) (by decide)
          rw [qr_X12_readHedge_67, if_pos (Int32.le_refl _), if_pos (by decide), b58, nc_lt_v, b64, si_t (show 12 ≠ 875 by decide), e18, nc_lt_v, show (70 : Int32) + nI h = nI (70 + h) from nI_add 70 h] at hm1
          have z4 : mZ v3 (nc_si (nc_si v3 875 0 (58 + h) (nI a)) 875 0 (64 + h) (nI g)) := (mZ.rf.si ⟨by decide, by decide⟩).si ⟨by decide, by decide⟩
          have z34 := z3.tr z4
          obtain ⟨v5, o1, o2, o3, o4, o5⟩ := jt_m (i := i + 1 + 1) (MS_z J2.2.2.1 z34) (MT_z M2 z34) (TW_z J2.2.2.2.2.2 z34.2.2.2.1 z34.2.2.2.2)
          rw [o1, nc_bV_v] at hm1
          have J5 : Jt w3 v5 b sz lim n (i + 1 + 1 + 1) := ⟨d3, d4, o3, o4, d6, o5⟩
          have mf5 : mF (nc_si (nc_si v1 875 0 (58 + h) (nI a)) 875 0 (64 + h) (nI g)) v5 := (mF_si (mF_si (mf2.tr mf3) (by decide)) (by decide)).tr o2.mF
          have mr5 : mR v v5 := (mr3.si.si).tr o2.mF.mR
          rw [k3, nc_bI_v, if_neg (fun z => z rfl), if_pos (show nI h < (6 : Int32) from (nI_litlt (n := 6) (by omega) (by omega)).mpr h6)]
          rcases jt_puts (lo := 1) (hi := 9) (to := 70 + h) J5 (by decide) (by decide) (by omega) with ⟨w6, v6, r1, r2, r3, r4, r5⟩ | ⟨e, w6, v6, x1, x2, r1, r2, r3, r4, r5, J6⟩
          · have r1' : nc_Call m_X10_nextNumber [tO, .inl 1, .inl 9] w3 = some (some (.inl 0), w6) := r1
            have r2' : nc_Call m_X12_puts [mO, .inl (nI (70 + h)), .inl 1, .inl 9] v5 = some (some (.inl 0), v6) := r2
            rw [r2', nc_bI_v, if_neg (fun z => z rfl)] at hm1
            refine ⟨0, w6, v6, ?_, ⟨0, v6, hl0 0 v6 (Or.inl rfl) hm1, Or.inl ⟨rfl, rfl, rfl⟩⟩, cf3.cR.tr r3.cR, mr5.tr r4.mR, Or.inl ⟨rfl, r5⟩⟩
            rw [r1', nc_bI_v, if_neg (fun z => z rfl)]
          · have r1' : nc_Call m_X10_nextNumber [tO, .inl 1, .inl 9] w3 = some (some (.inl 1), w6) := r1
            have r2' : nc_Call m_X12_puts [mO, .inl (nI (70 + h)), .inl 1, .inl 9] v5 = some (some (.inl 1), nc_si v6 875 0 (70 + h) (nI e)) := r2
            have mf6 := mF_si (t := 875) (a := 0) (k := 70 + h) (x := nI e) (mf5.tr r4) (by decide)
            have cf6 := cF_si (t := 246) (a := 1) (k := h) (x := nI e) (cF_si (t := 245) (a := 1) (k := h) (x := nI g) (cF_si (t := 244) (a := 1) (k := h) (x := nI a) (cf3.tr r3) (by decide)) (by decide)) (by decide)
            have v3h : (nc_si v6 875 0 (70 + h) (nI e)).1 875 0 3 = nI h := by
              rw [(mf6.1 875 0 (by omega)).1, si_k (by omega), si_k (by omega), si_k (by omega)]
              exact s1.2.2.2.1
            have w4h : (nc_si (nc_si (nc_si w6 244 1 h (nI a)) 245 1 h (nI g)) 246 1 h (nI e)).1 2 1 4 = nI h := by
              rw [(cf6.1 2 1 (by omega)).1, si_t (by decide), si_t (by decide), si_t (by decide)]
              exact p8.1.2.1.2.2.2.1
            rw [r2', nc_bI_v, if_pos (by decide), v3h, nI_1, nc_lt_v] at hm1
            have J7 : Jt (nc_si (nc_si (nc_si (nc_si w6 244 1 h (nI a)) 245 1 h (nI g)) 246 1 h (nI e)) 2 1 4 (nI (h + 1))) (nc_si (nc_si v6 875 0 (70 + h) (nI e)) 875 0 3 (nI (h + 1))) b sz lim n (i + 1 + 1 + 1 + 1) := Jt_z J6 ((((cZ.rf.si ⟨by decide, by decide, by decide, by decide⟩).si ⟨by decide, by decide, by decide, by decide⟩).si ⟨by decide, by decide, by decide, by decide⟩).si ⟨by decide, by decide, by decide, by decide⟩) (mZ.rf.si ⟨by decide, by decide⟩)
            have D7 : DD (nc_si (nc_si (nc_si (nc_si w6 244 1 h (nI a)) 245 1 h (nI g)) 246 1 h (nI e)) 2 1 4 (nI (h + 1))) (nc_si (nc_si v6 875 0 (70 + h) (nI e)) 875 0 3 (nI (h + 1))) f C N (h + 1) := DD_F (DD_hedge (a := a) (g := g) (e := e) D1 c1 y1 q x1 x2 k2) (cF_si cf6 (by decide)) (mF_si mf6 (by decide))
            obtain ⟨r, w8, v8, m1, m2, m3, m4, m5⟩ := jt_close J7
            have r01 : r = 0 ∨ r = 1 := m5.elim (fun z => Or.inl z.1) (fun z => Or.inr z.1)
            refine ⟨r, w8, v8, ?_, ⟨1, _, hl0 1 _ (Or.inr rfl) hm1, Or.inr ⟨by decide, m2⟩⟩, (((((cf3.cR.tr r3.cR).si (by omega)).si (by omega)).si (by omega)).si (by omega)).tr m3.cR, (((mr5.tr r4.mR).si).si).tr m4.mR, ?_⟩
            · rw [r1', nc_bI_v, if_pos (by decide), bd8 h 6 h6 (by decide), nc_lt_v, bd8 h 6 h6 (by decide), nc_lt_v, bd8 h 6 h6 (by decide), show (nc_si (nc_si w6 244 1 h (nI a)) 245 1 h (nI g)).1 10 0 12 = nI e by rw [si_t (by decide), si_t (by decide)]; exact r5, nc_lt_v, w4h, nI_1, nc_lt_v, m1, nc_bI_v, nc_z_of r01]
            · rcases m5 with z | z
              · exact Or.inl z
              · exact Or.inr ⟨z.1, _, f, C, N, h + 1, by omega, z.2, DD_F D7 m3 m4⟩
    · have y2' : nc_Call m_X2_named [.inr (.inr (2, 1)), tO, .inl 0, .inl 4] w3 = some (some (.inl (-1)), w4) := y2
      have y3' : nc_Call m_X12_looksAt [mO, .inl 22, .inl (nI f)] v2 = some (some (.inl 0), v3) := y3
      rw [y3', nc_bI_v, if_neg (fun z => z rfl)] at hm0
      refine ⟨0, w4, v3, ?_, ⟨0, v3, hl0 0 v3 (Or.inl rfl) hm0, Or.inl ⟨rfl, rfl, rfl⟩⟩, cf3.cR.tr y4.cR, mr2.tr y5.mR, Or.inl ⟨rfl, y6⟩⟩
      rw [y2', nc_bI_v, if_neg (by decide)]
  · have c2' : nc_Call m_X2_named [.inr (.inr (2, 1)), tO, .inl 0, .inl 4] w1 = some (some (.inl (-1)), w4) := c2
    have c3' : nc_Call m_X12_takesName [mO, .inl 22, .inl (nI f)] v1 = some (some (.inl 0), v3) := c3
    rw [c3', nc_bI_v, if_neg (fun z => z rfl)] at hm0
    refine ⟨0, w4, v3, ?_, ⟨0, v3, hl0 0 v3 (Or.inl rfl) hm0, Or.inl ⟨rfl, rfl, rfl⟩⟩, c4.cR, g2.mF.mR.tr c5.mR, Or.inl ⟨rfl, c6⟩⟩
    rw [c2', nc_bI_v, if_neg (by decide)]
end LI2
