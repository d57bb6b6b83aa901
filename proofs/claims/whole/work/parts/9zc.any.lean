/-! A sentence: any. -/
section SH
variable {w w' v v' : nc_H} {b : Nat → Nat} {sz lim n i : Nat} {t : Tok} {f C N T D m o dp : Nat} {bs : Nat → Int32} {A A2 A3 : nc_H → Option nc_R} {L : Int32 → nc_H → Option nc_R}
theorem any_loop (hL : ∀ x w, L x w = if (20 : Int32) ≤ x then
    some (some (.inl 1), w)
  else
    nc_bI (nc_Call m_X10_word [tO] w) fun r2 w1 =>
    if r2 ≠ 12 then
      some (some (.inl 1), w1)
    else
      nc_bV (nc_Call m_X10_next [tO] w1) fun w3 =>
      nc_bI (A w3) fun r5 w4 =>
      if r5 ≠ 0 then
        nc_bV (nc_Call m_X9_put [sO, .inl 12, .inl 0, .inl 0] w4) fun w6 =>
        nc_li (x + 1) fun x7 =>
        L x7 w6
      else
        some (some (.inl 0), w4)) (hO : SpA b sz lim n f C N D A) (hD : D ≤ 9) (hT : T + 3 ≤ 3 * D) (hb : T = 0 ∨ bs (T - 1) = 23) : ∀ q k w v i m o, 20 ≤ o + q → k + 1 ≤ o → PC w v b sz lim n N i bs T D m o (dp + 1) → NS w v f C N → wq (Tk b sz lim i) ≠ 13 → ∃ r w', L (nI k) w = some (some (.inl r), w') ∧ cS w w' ∧ ((r = 0 ∧ Fl w' v) ∨ (r = 1 ∧ ∃ v' i' m' o', Mo v = Mo v' ∧ mS v v' ∧ PC w' v' b sz lim n N i' bs T D m' o' (dp + 1) ∧ wq (Tk b sz lim i') ≠ 13 ∧ wq (Tk b sz lim i') ≠ 12 ∧ o ≤ o' ∧ 2 * o + m' ≤ 2 * o' + m)) := by
  intro q
  induction q with
  | zero =>
    intro k w v i m o hq hk P Nm h13
    have P0 := P
    obtain ⟨h44, Jv, u, v2, hn, Ju, hj, J2, E2, s1, s2, h44'⟩ := P
    have ho := E2.2.2.1.1
    have hkk := Tk_ok (b := b) (sz := sz) (lim := lim) i
    have hl := hL (nI k) w
    rw [if_neg (show ¬ (20 : Int32) ≤ nI k from nI_ge (show k < 20 by omega) (by decide)), sa_word Jv.2.2.1 hkk, nc_bI_v] at hl
    by_cases h12 : wq (Tk b sz lim i) = 12
    · rw [wqy _ (j := 12) (by decide) h12, if_neg (fun z => z rfl)] at hl
      have be := be_or (Nt_c.trans hn) (Jn_c.trans hj) Ju.2.2.2.2.2.1 J2.2.2.2.2.2.1 hkk h12 E2.2.1.2.2.1 (by omega)
      obtain ⟨v3, n1, n2, n3⟩ := Ja_m (Ja_z J2 cZ.rf (vPsh_Z (T := T) (x := 22)))
      obtain ⟨w1, k1, k2, k3⟩ := Jt_a n3
      rw [n1, nc_bV_v] at be
      have Mv := Mo_b h44 (word_11 Jv h12 (by decide)) be
      rw [if_pos (by decide)] at Mv
      rw [k1, nc_bV_v] at hl
      have sv : mS v v3 := ((s1.tr s2).tr vPsh_S).tr n2.mF.mS
      have Pr : Pre w1 v3 b sz lim n f C N (i + 1) (upd bs T 22) (T + 1) D m o (dp + 1) := by
        refine ⟨k3, EX_F (EX_ps E2) k2.cF n2.mF, ?_, NS_S Nm k2.cF.cS sv⟩
        rw [n2.2.1 44 (by omega)]
        unfold vPsh
        exact si_s
      obtain ⟨r, w2, a1, a2, a3⟩ := hO _ _ _ _ _ _ _ _ (by omega) (Or.inr (by rw [Nat.add_sub_cancel, upd_s]; decide)) Pr
      rw [a1, nc_bI_v] at hl
      rcases a3 with ⟨rfl, fl⟩ | ⟨rfl, v4, i', m', o', c1, c2, ⟨p1, p2, u5, v5, p3, p4, p5, p6, p7, p8, p9, p10⟩, c4, c5, c6⟩
      · rw [if_neg (fun z => z rfl)] at hl
        exact ⟨0, w2, hl, k2.cF.cS.tr a2, Or.inl ⟨rfl, Fl_tr fl Mv sv⟩⟩
      · have := p7.2.2.1.1
        omega
    · rw [if_pos (show _ ≠ (12 : Int32) from wqn _ (j := 12) (by decide) h12)] at hl
      exact ⟨1, w, hl, cS.rf, Or.inr ⟨rfl, v, i, m, o, rfl, mS.rf, P0, h13, h12, by omega, by omega⟩⟩
  | succ q ih =>
    intro k w v i m o hq hk P Nm h13
    have P0 := P
    obtain ⟨h44, Jv, u, v2, hn, Ju, hj, J2, E2, s1, s2, h44'⟩ := P
    have ho := E2.2.2.1.1
    have hkk := Tk_ok (b := b) (sz := sz) (lim := lim) i
    have hl := hL (nI k) w
    rw [if_neg (show ¬ (20 : Int32) ≤ nI k from nI_ge (show k < 20 by omega) (by decide)), sa_word Jv.2.2.1 hkk, nc_bI_v] at hl
    by_cases h12 : wq (Tk b sz lim i) = 12
    · rw [wqy _ (j := 12) (by decide) h12, if_neg (fun z => z rfl)] at hl
      have be := be_or (Nt_c.trans hn) (Jn_c.trans hj) Ju.2.2.2.2.2.1 J2.2.2.2.2.2.1 hkk h12 E2.2.1.2.2.1 (by omega)
      obtain ⟨v3, n1, n2, n3⟩ := Ja_m (Ja_z J2 cZ.rf (vPsh_Z (T := T) (x := 22)))
      obtain ⟨w1, k1, k2, k3⟩ := Jt_a n3
      rw [n1, nc_bV_v] at be
      have Mv := Mo_b h44 (word_11 Jv h12 (by decide)) be
      rw [if_pos (by decide)] at Mv
      rw [k1, nc_bV_v] at hl
      have sv : mS v v3 := ((s1.tr s2).tr vPsh_S).tr n2.mF.mS
      have Pr : Pre w1 v3 b sz lim n f C N (i + 1) (upd bs T 22) (T + 1) D m o (dp + 1) := by
        refine ⟨k3, EX_F (EX_ps E2) k2.cF n2.mF, ?_, NS_S Nm k2.cF.cS sv⟩
        rw [n2.2.1 44 (by omega)]
        unfold vPsh
        exact si_s
      obtain ⟨r, w2, a1, a2, a3⟩ := hO _ _ _ _ _ _ _ _ (by omega) (Or.inr (by rw [Nat.add_sub_cancel, upd_s]; decide)) Pr
      rw [a1, nc_bI_v] at hl
      rcases a3 with ⟨rfl, fl⟩ | ⟨rfl, v4, i', m', o', c1, c2, ⟨p1, p2, u5, v5, p3, p4, p5, p6, p7, p8, p9, p10⟩, c4, c5, c6⟩
      · rw [if_neg (fun z => z rfl)] at hl
        exact ⟨0, w2, hl, k2.cF.cS.tr a2, Or.inl ⟨rfl, Fl_tr fl Mv sv⟩⟩
      · have m40 : m' < 40 := by have := p7.2.2.1.1; have := p7.2.2.1.2.1; omega
        rw [if_pos (by decide), sa_put p7.1.1 m40, nc_bV_v, nc_li_v, nI_1] at hl
        have s22 : v5.1 907 0 T = 22 := by rw [p7.2.2.2.2 T (by omega), upd_s]
        have E6 := EX_cod (x := 12) (y := 0) (z := 0) (a := 22) (b' := 0) (c := 0) (dp' := dp + 1) (EX_p1 p7) (Or.inr (Or.inr (Or.inl ⟨rfl, rfl⟩))) (Or.inr (Or.inl ⟨Or.inr rfl, by omega, rfl⟩)) (by have := p7.2.2.1.2.2; omega) (by have := p7.2.2.1.2.1; omega)
        have E6' : EX (wPut w2 m' 12 0 0) (vPop v5 T m' 22) bs T D (m' + 1) o' (dp + 1) N := E6
        have J5 : Jn 22 u5 = some (none, vPop v5 T m' 22) := by
          have e := Jn_1 (x := 22) p7.2.1.2.2.1 (by omega) (Or.inr ⟨s22, rfl⟩) p7.2.1.1 m40
          rw [s22] at e
          rw [p5 22 (Or.inr rfl), e]
          refine Jn_0 E6'.2.1.2.2.1 (by omega) ?_
          by_cases z : T = 0
          · exact Or.inl z
          · rw [E6'.2.2.2.2 (T - 1) (by omega), hb.resolve_left z]
            exact Or.inr ⟨by decide, Or.inl (by decide)⟩
        have P6 : PC (wPut w2 m' 12 0 0) v4 b sz lim n N i' bs T D (m' + 1) o' (dp + 1) := by
          refine ⟨p1, Ja_z p2 wPut_Z mZ.rf, u5, vPop v5 T m' 22, p3, Ja_z p4 wPut_Z mZ.rf, J5, Ja_z p6 wPut_Z vPop_Z, E6', p8, p9.tr vPop_S, ?_⟩
          unfold vPop
          rw [vCod_k (by decide), si_k (by decide)]
          exact p10
        obtain ⟨r, w7, d1, d2, d3⟩ := ih (k + 1) (wPut w2 m' 12 0 0) v4 i' (m' + 1) o' (by omega) (by omega) P6 (NS_S Nm ((k2.cF.cS.tr a2).tr wPut_S) (sv.tr c2)) c4
        refine ⟨r, w7, hl.trans d1, ((k2.cF.cS.tr a2).tr wPut_S).tr d2, ?_⟩
        rcases d3 with ⟨r0, fl⟩ | ⟨r0, v7, i7, m7, o7, e1, e2, e3, e4, e4', e5, e6⟩
        · exact Or.inl ⟨r0, Fl_tr fl (Mv.trans c1) (sv.tr c2)⟩
        · exact Or.inr ⟨r0, v7, i7, m7, o7, (Mv.trans c1).trans e1, (sv.tr c2).tr e2, e3, e4, e4', by omega, by omega⟩
    · rw [if_pos (show _ ≠ (12 : Int32) from wqn _ (j := 12) (by decide) h12)] at hl
      exact ⟨1, w, hl, cS.rf, Or.inr ⟨rfl, v, i, m, o, rfl, mS.rf, P0, h13, h12, by omega, by omega⟩⟩
theorem any_step (hA : ∀ w, A3 w = nc_bI (A w) fun r2 w1 =>
  if r2 ≠ 0 then
    L 0 w1
  else
    some (some (.inl 0), w1)) (hL : ∀ x w, L x w = if (20 : Int32) ≤ x then
    some (some (.inl 1), w)
  else
    nc_bI (nc_Call m_X10_word [tO] w) fun r2 w1 =>
    if r2 ≠ 12 then
      some (some (.inl 1), w1)
    else
      nc_bV (nc_Call m_X10_next [tO] w1) fun w3 =>
      nc_bI (A w3) fun r5 w4 =>
      if r5 ≠ 0 then
        nc_bV (nc_Call m_X9_put [sO, .inl 12, .inl 0, .inl 0] w4) fun w6 =>
        nc_li (x + 1) fun x7 =>
        L x7 w6
      else
        some (some (.inl 0), w4)) (hO : SpA b sz lim n f C N D A) (hD : D ≤ 9) : SpC b sz lim n f C N D A3 := by
  intro w v i bs T m o dp hT hb P
  have hl := hA w
  obtain ⟨r, w1, a1, a2, a3⟩ := hO _ _ _ _ _ _ _ _ (by omega) (by
    rcases hb with z | z
    · exact Or.inl z
    · rw [z]
      exact Or.inr ⟨by decide, by decide⟩) P
  rw [a1, nc_bI_v] at hl
  rcases a3 with ⟨rfl, fl⟩ | ⟨rfl, v4, i', m', o', c1, c2, ⟨p1, p2, u5, v5, p3, p4, p5, p6, p7, p8, p9, p10⟩, c4, c5, c6⟩
  · rw [if_neg (fun z => z rfl)] at hl
    exact ⟨0, w1, hl, a2, Or.inl ⟨rfl, fl⟩⟩
  · rw [if_pos (by decide)] at hl
    have J5 : Jn 22 u5 = some (none, v5) := by
      rw [p5 22 (Or.inr rfl)]
      refine Jn_0 p7.2.1.2.2.1 (by omega) ?_
      by_cases z : T = 0
      · exact Or.inl z
      · rw [p7.2.2.2.2 (T - 1) (by omega), hb.resolve_left z]
        exact Or.inr ⟨by decide, Or.inl (by decide)⟩
    have P1 : PC w1 v4 b sz lim n N i' bs T D m' o' (dp + 1) := ⟨p1, p2, u5, v5, p3, p4, J5, p6, p7, p8, p9, p10⟩
    obtain ⟨r, w7, d1, d2, d3⟩ := any_loop hL hO hD hT hb 20 0 w1 v4 i' m' o' (by omega) (by omega) P1 (NS_S P.2.2.2 a2 c2) c4
    refine ⟨r, w7, hl.trans d1, a2.tr d2, ?_⟩
    rcases d3 with ⟨r0, fl⟩ | ⟨r0, v7, i7, m7, o7, e1, e2, e3, e4, e4', e5, e6⟩
    · exact Or.inl ⟨r0, Fl_tr fl c1 c2⟩
    · exact Or.inr ⟨r0, v7, i7, m7, o7, c1.trans e1, c2.tr e2, e3, e4, e4', by omega, by omega⟩
end SH
