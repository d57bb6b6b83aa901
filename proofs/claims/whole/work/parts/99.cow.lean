/-! Lines: hears and cows. -/
section LC
variable {w w' v v' : nc_H} {b : Nat → Nat} {sz lim n i : Nat} {t : Tok} {f C N h : Nat} {S S' : Nat → Int32}
theorem jt_puts {lo hi to : Nat} (J : Jt w v b sz lim n i) (hlh : hi < 1000) (hlo : lo < 1000) (hto : to < 76) : (∃ w' v', nc_Call m_X10_nextNumber [tO, .inl (nI lo), .inl (nI hi)] w = some (some (.inl 0), w') ∧ nc_Call m_X12_puts [mO, .inl (nI to), .inl (nI lo), .inl (nI hi)] v = some (some (.inl 0), v') ∧ cF w w' ∧ mF v v' ∧ FQ w' v') ∨ (∃ x w' v', lo ≤ x ∧ x ≤ hi ∧ nc_Call m_X10_nextNumber [tO, .inl (nI lo), .inl (nI hi)] w = some (some (.inl 1), w') ∧ nc_Call m_X12_puts [mO, .inl (nI to), .inl (nI lo), .inl (nI hi)] v = some (some (.inl 1), nc_si v' 875 0 to (nI x)) ∧ cF w w' ∧ mF v v' ∧ w'.1 10 0 12 = nI x ∧ Jt w' (nc_si v' 875 0 to (nI x)) b sz lim n (i + 1)) := by
  obtain ⟨r, w', v', a1, a2, a3, a4, a5⟩ := jt_number (lo := lo) (hi := hi) J hlh hlo
  rcases a5 with ⟨r0, fq⟩ | ⟨r1, J', x, x1, x2, x3, x4⟩
  · subst r0
    refine Or.inl ⟨w', v', a1, ?_, a3, a4, fq⟩
    rw [qc_X12_puts, a2, nc_bI_v, if_neg (fun z => z rfl)]
  · subst r1
    refine Or.inr ⟨x, w', v', x1, x2, a1, ?_, a3, a4, x3, Jt_z J' cZ.rf (mZ.rf.si ⟨by decide, by decide⟩)⟩
    rw [qc_X12_puts, a2, nc_bI_v, if_pos (by decide), bd8 to 76 hto (by decide), nc_lt_v, x4]
theorem DD_hears {x : Nat} {w1 v1 : nc_H} (hD : DD w1 v1 f C N h) (hx1 : 1 ≤ x) (hx : x ≤ 5) : DD (nc_si (nc_si w1 3 0 2 1) 2 1 5 (nI x)) (nc_si (nc_si v1 12 0 20 1) 875 0 4 (nI x)) f C N h := by
  obtain ⟨⟨s, h1, h2, h3, h4⟩, ⟨x1, x2, x3⟩, k, d4, d5, d6⟩ := hD
  have hC : C ≤ 8 := s.2.2.2.2.2.1
  have hN : N ≤ 10 := s.2.2.2.2.2.2.1
  have hh : h ≤ 6 := s.2.2.2.2.2.2.2
  have eS : (nc_si (nc_si v1 12 0 20 1) 875 0 4 (nI x)).1 875 0 = upd (v1.1 875 0) 4 (nI x) := by
    rw [si_row, si_t (by decide)]
  have e2 : ∀ j, (nc_si (nc_si w1 3 0 2 1) 2 1 5 (nI x)).1 2 1 j = if j = 5 then nI x else w1.1 2 1 j := by
    intro j
    by_cases q : j = 5
    · rw [if_pos q, q, si_s]
    · rw [if_neg q, si_k q, si_t (by decide)]
  have er : ∀ t, t ≠ 2 → t ≠ 3 → (nc_si (nc_si w1 3 0 2 1) 2 1 5 (nI x)).1 t = w1.1 t := by
    intro t ht ht3
    rw [si_t ht, si_t ht3]
  have u : ∀ j, j ≠ 4 → upd (v1.1 875 0) 4 (nI x) j = v1.1 875 0 j := fun j hj => upd_o hj
  unfold DD
  rw [eS]
  obtain ⟨k1, k2, k3, k4, k5, k6, k7, k8, k9⟩ := k
  have s' : shp (upd (v1.1 875 0) 4 (nI x)) f C N h := ⟨(u 0 (by decide)).trans s.1, (u 1 (by decide)).trans s.2.1, (u 2 (by decide)).trans s.2.2.1, (u 3 (by decide)).trans s.2.2.2.1, s.2.2.2.2.1, hC, hN, hh⟩
  refine ⟨⟨s', ⟨?_, ?_, ?_, ?_, ?_, ?_⟩, fun c hc => ?_, fun m hm => ?_, fun m hm => ?_⟩, ⟨fun g hg => ?_, ?_, ?_⟩, ⟨s', fun m hm => ?_, fun c hc => ?_, fun c hc => ?_, fun m hm => ?_, fun c hc => ?_, fun m hm => ?_, ?_, ?_⟩, ?_, ?_, ?_⟩
  · rw [e2, if_neg (by decide)]; exact h1.1
  · rw [e2, if_neg (by decide)]; exact h1.2.1
  · rw [e2, if_neg (by decide)]; exact h1.2.2.1
  · rw [e2, if_neg (by decide)]; exact h1.2.2.2.1
  · rw [e2, if_pos rfl, upd_s]
  · rw [e2, if_neg (by decide), u 57 (by decide)]; exact h1.2.2.2.2.2
  · rw [er 238 (by decide) (by decide), er 239 (by decide) (by decide), er 240 (by decide) (by decide), er 241 (by decide) (by decide), u _ (by omega), u _ (by omega), u _ (by omega), u _ (by omega)]
    exact h2 c hc
  · rw [er 242 (by decide) (by decide), er 243 (by decide) (by decide), u _ (by omega), u _ (by omega)]
    exact h3 m hm
  · rw [er 244 (by decide) (by decide), er 245 (by decide) (by decide), er 246 (by decide) (by decide), u _ (by omega), u _ (by omega), u _ (by omega)]
    exact h4 m hm
  · rw [er 237 (by decide) (by decide), x1 g hg]
    unfold cof
    exact it_cong (n := C) (fun j z hj => by rw [u (5 + j) (by omega)]) C 0 0 (by omega)
  · rw [e2, if_neg (by decide), x2]
    unfold wbs
    exact it_cong (n := N) (fun j z hj => by rw [u (37 + j) (by omega)]) N 0 0 (by omega)
  · exact x3
  · rw [u _ (by omega)]; exact k2 m hm
  · obtain ⟨g, g1, g2⟩ := k3 c hc
    exact ⟨g, g1, by rw [u _ (by omega)]; exact g2⟩
  · obtain ⟨g, g1, g2⟩ := k4 c hc
    exact ⟨g, by omega, by rw [u _ (by omega)]; exact g2⟩
  · obtain ⟨x, y, e, g1, g2, g3, g4, g5, g6, g7, g8⟩ := k5 m hm
    exact ⟨x, y, e, by omega, by omega, g3, g4, g5, by rw [u _ (by omega)]; exact g6, by rw [u _ (by omega)]; exact g7, by rw [u _ (by omega)]; exact g8⟩
  · obtain ⟨g, g1, g2⟩ := k6 c hc
    exact ⟨g, g1, by rw [u _ (by omega)]; exact g2⟩
  · obtain ⟨g, g1, g2⟩ := k7 m hm
    exact ⟨g, g1, by rw [u _ (by omega)]; exact g2⟩
  · rw [u 57 (by decide)]; exact k8
  · exact ⟨x, hx1, hx, upd_s⟩
  · obtain ⟨x, y1, y2, y3⟩ := d4
    refine ⟨x, y1, y2, fun a ha b hb hab q => ?_⟩
    obtain ⟨j, j1, j2⟩ := y3 a ha b hb hab q
    refine ⟨j, j1, ?_⟩
    rw [u _ (by omega), u _ (by omega)]
    exact j2
  · rw [si_t (show 3 ≠ 2 by decide), si_s, si_t (show 12 ≠ 875 by decide), si_s]
    exact ⟨rfl, Or.inr rfl⟩
  · rw [e2, if_neg (by decide), si_t (show 12 ≠ 875 by decide), si_k (by decide)]
    exact d6
theorem ln_hears (P : Pr w v b sz lim n i t f C N h) (hq : wq t = 9) : LQ w v (nc_Call m_X3_readHears [.inr (.inr (3, 0))] w) b sz lim n i := by
  obtain ⟨p1, p2, p3, p4, p5, p6, p7, p8, p9, p10⟩ := P
  have hl : nc_Call m_X12_line [mO] v = if (v.1 12 0 20) = 0 then
              nc_lt (nc_si v 12 0 20 1) fun w11 =>
              nc_bV (nc_Call m_X12_next [mO] w11) fun w12 =>
              nc_bI (nc_Call m_X12_puts [mO, .inl 4, .inl 1, .inl 5] w12) fun r14 w13 =>
              nc_z r14 <| some (some (.inl r14), w13)
            else
              nc_bI (nc_Call m_X12_bad [mO, .inl 3] v) fun r16 w15 =>
              nc_z r16 <| some (some (.inl r16), w15) := by
    rw [qc_X12_line, wl_0, sm_wq (by decide) p6 p10, nc_bI_v, tI_f (by omega), if_pos rfl, wl_1, sm_wq (by decide) p6 p10, nc_bI_v, tI_f (by omega), if_pos rfl, wl_2, sm_wq (by decide) p6 p10, nc_bI_v, tI_f (by omega), if_pos rfl, wl_8, sm_wq (by decide) p6 p10, nc_bI_v, tI_f (by omega), if_pos rfl, wl_9, sm_wq (by decide) p6 p10, nc_bI_v, tI_t hq, if_pos (by decide)]
  rw [qc_X3_readHears, p8.2.2.2.2.1.1]
  unfold LQ LN
  rw [hl]
  by_cases q : v.1 12 0 20 = 0
  · rw [if_pos q, if_pos q, nc_lt_v]
    have z : mZ v (nc_si v 12 0 20 1) := mZ.rf.sk (by decide)
    obtain ⟨v1, g1, g2, g3, g4, g5⟩ := jt_m (i := i) (MS_z p5 z) (MT_z (p9 ▸ p6) z) (TW_z p7 z.2.2.2.1 z.2.2.2.2)
    have J1 : Jt w v1 b sz lim n (i + 1) := ⟨p1, p2, g3, g4, p4, g5⟩
    have mr1 : mR v v1 := (mR.rf.sk (by omega)).tr g2.mF.mR
    rw [g1, nc_bV_v, show (4 : Int32) = nI 4 from rfl, show (1 : Int32) = nI 1 from rfl, show (5 : Int32) = nI 5 from rfl]
    rcases jt_puts (lo := 1) (hi := 5) (to := 4) J1 (by decide) (by decide) (by decide) with ⟨w2, v2, a1, a2, a3, a4, a5⟩ | ⟨x, w2, v2, c1, c2, a1, a2, a3, a4, a5, a6⟩
    · refine ⟨0, w2, v2, ?_, ⟨0, v2, ?_, Or.inl ⟨rfl, rfl, rfl⟩⟩, a3.cR, mr1.tr a4.mR, Or.inl ⟨rfl, a5⟩⟩
      · rw [a1, nc_bI_v, if_neg (fun z => z rfl)]
      · rw [a2, nc_bI_v, nc_z_0]
    · have J3 : Jt (nc_si (nc_si w2 3 0 2 1) 2 1 5 (nI x)) (nc_si v2 875 0 4 (nI x)) b sz lim n (i + 1 + 1) := Jt_z a6 ((cZ.rf.si ⟨by decide, by decide, by decide, by decide⟩).si ⟨by decide, by decide, by decide, by decide⟩) mZ.rf
      have D3 : DD (nc_si (nc_si w2 3 0 2 1) 2 1 5 (nI x)) (nc_si v2 875 0 4 (nI x)) f C N h := DD_F (DD_hears p8 c1 c2) (cF_si (cF_si a3 (by decide)) (by decide)) (mF_si (g2.mF.tr a4) (by decide))
      obtain ⟨r, w4, v4, b1, b2, b3, b4, b5⟩ := jt_close J3
      have r01 : r = 0 ∨ r = 1 := b5.elim (fun z => Or.inl z.1) (fun z => Or.inr z.1)
      refine ⟨r, w4, v4, ?_, ⟨1, _, ?_, Or.inr ⟨by decide, b2⟩⟩, ((a3.cR.si (by omega)).si (by omega)).tr b3.cR, ((mr1.tr a4.mR).si).tr b4.mR, ?_⟩
      · have e12 : (nc_si w2 3 0 2 1).1 10 0 12 = nI x := by
          rw [si_t (by decide)]
          exact a5
        rw [a1, nc_bI_v, if_pos (by decide), nc_lt_v, show nI 1 = (1 : Int32) from rfl, e12, nc_lt_v, b1, nc_bI_v, nc_z_of r01]
      · rw [a2, nc_bI_v, nc_z_1]
      · rcases b5 with z | z
        · exact Or.inl z
        · exact Or.inr ⟨z.1, i + 1 + 1 + 1, f, C, N, h, by omega, z.2, DD_F D3 b3 b4⟩
  · rw [if_neg q, if_neg q]
    obtain ⟨w2, v2, a1, a2, a3, a4, a5⟩ := jt_fail (w := w) (v := v) (t := t) 3 p3.1 p6.2.1
    refine ⟨0, w2, v2, ?_, ⟨0, v2, ?_, Or.inl ⟨rfl, rfl, rfl⟩⟩, a3.cR, a4.mR, Or.inl ⟨rfl, a5⟩⟩
    · rw [a1, nc_bI_v, nc_z_0]
    · rw [a2, nc_bI_v, nc_z_0]
end LC
