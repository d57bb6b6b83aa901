/-! Lines: farms and hears. -/
section LF
variable {w w' v v' : nc_H} {b : Nat → Nat} {sz lim n i : Nat} {t : Tok} {f C N h : Nat} {S S' : Nat → Int32}
theorem mF_si {t a k : Nat} {x : Int32} (hm : mF v v') (ht : t ≠ 12) : mF (nc_si v t a k x) (nc_si v' t a k x) := by
  refine ⟨fun t' a' q => ⟨?_, (hm.1 t' a' q).2⟩, fun j q => ?_, hm.2.2⟩
  · by_cases e : t' = t
    · subst e
      by_cases e2 : a' = a
      · subst e2
        rw [si_row, si_row, (hm.1 t' a' q).1]
      · rw [si_a e2, si_a e2]
        exact (hm.1 t' a' q).1
    · rw [si_t e, si_t e]
      exact (hm.1 t' a' q).1
  · rw [si_t (fun e => ht e.symm), si_t (fun e => ht e.symm)]
    exact hm.2.1 j q
theorem cF_si {t a k : Nat} {x : Int32} (hm : cF w w') (ht : t ≠ 10) : cF (nc_si w t a k x) (nc_si w' t a k x) := by
  refine ⟨fun t' a' q => ⟨?_, (hm.1 t' a' q).2⟩, ?_⟩
  · by_cases e : t' = t
    · subst e
      by_cases e2 : a' = a
      · subst e2
        rw [si_row, si_row, (hm.1 t' a' q).1]
      · rw [si_a e2, si_a e2]
        exact (hm.1 t' a' q).1
    · rw [si_t e, si_t e]
      exact (hm.1 t' a' q).1
  · rw [si_t (fun e => ht e.symm), si_t (fun e => ht e.symm)]
    exact hm.2
theorem cF_sl {t a k : Nat} {x : Int64} (hm : cF w w') : cF (nc_sl w t a k x) (nc_sl w' t a k x) := by
  refine ⟨fun t' a' q => ⟨(hm.1 t' a' q).1, ?_⟩, hm.2⟩
  by_cases e : t' = t
  · subst e
    by_cases e2 : a' = a
    · subst e2
      funext j
      by_cases e3 : j = k
      · subst e3
        rw [sl_s, sl_s]
      · rw [sl_k e3, sl_k e3, (hm.1 t' a' q).2]
    · rw [sl_a e2, sl_a e2]
      exact (hm.1 t' a' q).2
  · rw [sl_t e, sl_t e]
    exact (hm.1 t' a' q).2
theorem mF_sl {t a k : Nat} {x : Int64} (hm : mF v v') (ht : t ≠ 12) : mF (nc_sl v t a k x) (nc_sl v' t a k x) := by
  refine ⟨fun t' a' q => ⟨(hm.1 t' a' q).1, ?_⟩, hm.2.1, fun j q => ?_⟩
  · by_cases e : t' = t
    · subst e
      by_cases e2 : a' = a
      · subst e2
        funext j
        by_cases e3 : j = k
        · subst e3
          rw [sl_s, sl_s]
        · rw [sl_k e3, sl_k e3, (hm.1 t' a' q).2]
      · rw [sl_a e2, sl_a e2]
        exact (hm.1 t' a' q).2
    · rw [sl_t e, sl_t e]
      exact (hm.1 t' a' q).2
  · rw [sl_t (fun e => ht e.symm), sl_t (fun e => ht e.symm)]
    exact hm.2.2 j q
theorem ln_farm (P : Pr w v b sz lim n i t f C N h) (hq : wq t = 0) : LQ w v (nc_Call m_X3_readFarm [.inr (.inr (3, 0))] w) b sz lim n i := by
  obtain ⟨v1, g1, g2, J1, D1⟩ := Pr_next P
  obtain ⟨p1, p2, p3, p4, p5, p6, p7, p8, p9, p10⟩ := P
  have s := p8.1.1
  have s1 := D1.1.1
  have hl : nc_Call m_X12_line [mO] v = if (v.1 875 0 0) ≠ 4 then
      nc_bV (nc_Call m_X12_next [mO] v) fun w40 =>
      nc_bI (nc_Call m_X12_fresh [mO, .inl (22 + (w40.1 875 0 0))] w40) fun r42 w41 =>
      if r42 ≠ 0 then
        nc_lt (nc_si w41 875 0 0 ((w41.1 875 0 0) + 1)) fun w43 =>
        some (some (.inl 1), w43)
      else
        some (some (.inl 0), w41)
    else
      nc_bI (nc_Call m_X12_bad [mO, .inl 4] v) fun r45 w44 =>
      nc_z r45 <| some (some (.inl r45), w44) := by
    rw [qc_X12_line, wl_0, sm_wq (by decide) p6 p10, nc_bI_v, tI_t hq, if_neg (by decide)]
  have e4 : (v.1 875 0 0 ≠ 4) ↔ f ≠ 4 := by
    rw [s.1]
    exact not_congr (nI_lit (by have := s.2.2.2.2.1; omega) 4 (by decide))
  have hf4 := s.2.2.2.2.1
  rw [qc_X3_readFarm, p8.1.2.1.1, nc_li_v]
  unfold LQ LN
  rw [hl]
  by_cases q : f < 4
  · rw [if_pos (show nI f < (4 : Int32) from (nI_litlt (n := 4) (by omega) (by omega)).mpr q), if_pos (e4.mpr (by omega)), g1, nc_bV_v, s1.1, show (0 : Int32) + nI f = nI f from Int32.zero_add _, show (22 : Int32) = nI 22 from rfl, nI_add]
    rcases jt_fresh J1 D1.2.1.2.2 (by omega) s1.2.2.2.2.2.1 s1.2.2.2.2.2.2.1 s1.1 s1.2.1 s1.2.2.1 (show f < 22 by omega) with ⟨w2, v2, a1, a2, a3, a4, a5⟩ | ⟨l, w2, v2, l1, l2, l3, a1, a2, a3, a4, a5⟩
    · refine ⟨0, w2, v2, ?_, ⟨0, v2, ?_, Or.inl ⟨rfl, rfl, rfl⟩⟩, a3.cR, g2.mF.mR.tr a4.mR, Or.inl ⟨rfl, a5⟩⟩
      · rw [a1, nc_bI_v, if_neg (fun z => z rfl)]
      · rw [a2, nc_bI_v, if_neg (fun z => z rfl)]
    · have w21 : (nc_sl w2 236 1 f (enc5 l)).1 2 1 1 = nI f := by
        rw [sl_1, (a3.1 2 1 (by omega)).1]
        exact D1.1.2.1.1
      have v80 : v2.1 875 0 0 = nI f := by
        rw [(a4.1 875 0 (by omega)).1, sl_1]
        exact s1.1
      have J3 : Jt (nc_si (nc_sl w2 236 1 f (enc5 l)) 2 1 1 (nI (f + 1))) (nc_si v2 875 0 0 (nI (f + 1))) b sz lim n (i + 1 + 1) := Jt_z a5 (cZ.rf.si ⟨by decide, by decide, by decide, by decide⟩) (mZ.rf.si ⟨by decide, by decide⟩)
      have D3 : DD (nc_si (nc_sl w2 236 1 f (enc5 l)) 2 1 1 (nI (f + 1))) (nc_si v2 875 0 0 (nI (f + 1))) (f + 1) C N h := DD_F (DD_farm D1 q l1 l2 l3) (cF_si (cF_sl a3.cF) (by decide)) (mF_si a4.mF (by decide))
      have cr : cR w (nc_si (nc_sl w2 236 1 f (enc5 l)) 2 1 1 (nI (f + 1))) := (a3.cR.sL).si (by omega)
      have mr : mR v (nc_si v2 875 0 0 (nI (f + 1))) := ((g2.mF.mR.sL (k := 22 + f) (x := enc8 l) (by omega)).tr a4.mF.mR).si
      obtain ⟨r, w4, v4, b1, b2, b3, b4, b5⟩ := jt_close J3
      refine ⟨r, w4, v4, ?_, ⟨1, _, ?_, Or.inr ⟨by decide, b2⟩⟩, cr.tr b3.cR, mr.tr b4.mR, ?_⟩
      · have r01 : r = 0 ∨ r = 1 := b5.elim (fun z => Or.inl z.1) (fun z => Or.inr z.1)
        rw [a1, nc_bI_v, if_pos (by decide), w21, nI_1, nc_lt_v, b1, nc_bI_v, nc_z_of r01]
      · rw [a2, nc_bI_v, if_pos (by decide), v80, nI_1, nc_lt_v]
      · rcases b5 with z | z
        · exact Or.inl z
        · exact Or.inr ⟨z.1, i + 1 + 1 + 1, f + 1, C, N, h, by omega, z.2, DD_F D3 b3 b4⟩
  · rw [if_neg (show ¬ nI f < (4 : Int32) from fun z => q ((nI_litlt (n := 4) (by omega) (by omega)).mp z)), if_neg (fun z => (e4.mp z) (by omega))]
    obtain ⟨w2, v2, a1, a2, a3, a4, a5⟩ := jt_fail (w := w) (v := v) (t := t) 4 p3.1 p6.2.1
    refine ⟨0, w2, v2, ?_, ⟨0, v2, ?_, Or.inl ⟨rfl, rfl, rfl⟩⟩, a3.cR, a4.mR, Or.inl ⟨rfl, a5⟩⟩
    · rw [a1, nc_bI_v, nc_z_0]
    · rw [a2, nc_bI_v, nc_z_0]
end LF
