/-! A sentence: all, any. -/
section SG
variable {w w' v v' : nc_H} {b : Nat → Nat} {sz lim n i : Nat} {t : Tok} {f C N T D m o dp : Nat} {bs : Nat → Int32} {A A2 A3 : nc_H → Option nc_R} {L : Int32 → nc_H → Option nc_R}
theorem EX_ps {x : Int32} (h : EX w v bs T D m o dp N) : EX w (vPsh v T x) (upd bs T x) (T + 1) D m o dp N := by
  obtain ⟨a, ⟨b1, b2, b3, b4⟩, c, d, e⟩ := h
  have k : ∀ k, k ≠ 42 → k ≠ 44 → (vPsh v T x).1 12 0 k = v.1 12 0 k := fun k h1 h2 => by
    unfold vPsh
    rw [si_k h2, si_k h1, si_t (by decide)]
  refine ⟨a, ⟨by rw [k 40 (by decide) (by decide)]; exact b1, by rw [k 41 (by decide) (by decide)]; exact b2, ?_, by rw [k 43 (by decide) (by decide)]; exact b4⟩, c, CD_eq d rfl rfl rfl ?_, fun j hj => ?_⟩
  · unfold vPsh
    rw [si_k (by decide), si_s]
  · unfold vPsh
    rw [si_t (by decide), si_t (by decide), si_t (by decide)]
  · unfold vPsh
    rw [si_t (by decide), si_t (by decide)]
    by_cases q : j = T
    · rw [q, si_s, upd_s]
    · rw [si_k q, upd_n q]
      exact e j (by omega)
theorem vPsh_Z {x : Int32} : mZ v (vPsh v T x) := ((mZ.rf.si ⟨by decide, by decide⟩).sk (by decide)).sk (by decide)
theorem vPsh_S {x : Int32} : mS v (vPsh v T x) := ((mS.rf.si (by omega)).sk (by omega)).sk (by omega)
theorem EX_p1 {x : Int32} (h : EX w v (upd bs T x) (T + 1) D m o dp N) : EX w (nc_si v 12 0 42 (nI T)) bs T D m o dp N := by
  obtain ⟨a, ⟨b1, b2, b3, b4⟩, c, d, e⟩ := h
  refine ⟨a, ⟨by rw [si_k (by decide)]; exact b1, by rw [si_k (by decide)]; exact b2, si_s, by rw [si_k (by decide)]; exact b4⟩, c, CD_eq d rfl rfl rfl (by rw [si_t (by decide)]), fun j hj => ?_⟩
  rw [si_t (by decide), e j (by omega), upd_n (by omega)]
theorem vPop_Z {x : Int32} : mZ v (vPop v T m x) := (mZ.rf.sk (by decide)).tr vCod_Z
theorem vPop_S {x : Int32} : mS v (vPop v T m x) := (mS.rf.sk (by omega)).tr vCod_S
theorem word_11 {w v : nc_H} {j : Nat} (J : Ja w v b sz lim n i) (hq : wq (Tk b sz lim i) = j) (hj : j < 24) : v.1 12 0 11 ≠ 0 := by
  have hk := Tk_ok (b := b) (sz := sz) (lim := lim) i
  rw [J.2.2.2.2.2.1.1]
  intro z
  have h1 := (km_i hk).2.2.2.mp z
  have h2 := ((wq_lt hj).mp hq).1
  omega
theorem all_loop (hL : ∀ x w, L x w = if (20 : Int32) ≤ x then
    some (some (.inl 1), w)
  else
    nc_bI (nc_Call m_X10_word [tO] w) fun r2 w1 =>
    if r2 ≠ 13 then
      some (some (.inl 1), w1)
    else
      nc_bV (nc_Call m_X10_next [tO] w1) fun w3 =>
      nc_bI (A w3) fun r5 w4 =>
      if r5 ≠ 0 then
        nc_bV (nc_Call m_X9_put [sO, .inl 13, .inl 0, .inl 0] w4) fun w6 =>
        nc_li (x + 1) fun x7 =>
        L x7 w6
      else
        some (some (.inl 0), w4)) (hO : SpO b sz lim n f C N D A) (hD : D ≤ 9) (hT : T + 2 ≤ 3 * D) (hb : T = 0 ∨ (bs (T - 1) ≠ 20 ∧ bs (T - 1) ≠ 21)) : ∀ q k w v i m o, 20 ≤ o + q → k + 1 ≤ o → PA w v b sz lim n N i bs T D m o (dp + 1) → NS w v f C N → ∃ r w', L (nI k) w = some (some (.inl r), w') ∧ cS w w' ∧ ((r = 0 ∧ Fl w' v) ∨ (r = 1 ∧ ∃ v' i' m' o', Mo v = Mo v' ∧ mS v v' ∧ PA w' v' b sz lim n N i' bs T D m' o' (dp + 1) ∧ wq (Tk b sz lim i') ≠ 13 ∧ o ≤ o' ∧ 2 * o + m' ≤ 2 * o' + m)) := by
  intro q
  induction q with
  | zero =>
    intro k w v i m o hq hk P Nm
    have P0 := P
    obtain ⟨h44, Jv, u, v2, hn, Ju, hj, J2, E2, s1, s2, h44'⟩ := P
    have ho := E2.2.2.1.1
    have hkk := Tk_ok (b := b) (sz := sz) (lim := lim) i
    have hl := hL (nI k) w
    rw [if_neg (show ¬ (20 : Int32) ≤ nI k from nI_ge (show k < 20 by omega) (by decide)), sa_word Jv.2.2.1 hkk, nc_bI_v] at hl
    by_cases h13 : wq (Tk b sz lim i) = 13
    · rw [wqy _ (j := 13) (by decide) h13, if_neg (fun z => z rfl)] at hl
      have hj21 : Jn 21 u = some (none, v2) := by
        rw [hj 21 (Or.inl rfl)]
        refine Jn_0 E2.2.1.2.2.1 (by omega) ?_
        by_cases z : T = 0
        · exact Or.inl z
        · rw [E2.2.2.2.2 (T - 1) (by omega)]
          exact Or.inr ⟨(hb.resolve_left z).2, Or.inr (by decide)⟩
      have be := be_and (Nt_c.trans hn) (Jn_c.trans hj21) Ju.2.2.2.2.2.1 J2.2.2.2.2.2.1 hkk h13 E2.2.1.2.2.1 (by omega)
      obtain ⟨v3, n1, n2, n3⟩ := Ja_m (Ja_z J2 cZ.rf (vPsh_Z (T := T) (x := 21)))
      have Jw : Jt w v3 b sz lim n (i + 1) := n3
      obtain ⟨w1, k1, k2, k3⟩ := Jt_a Jw
      rw [n1, nc_bV_v] at be
      have Mv := Mo_b h44 (word_11 Jv h13 (by decide)) be
      rw [if_pos (by decide)] at Mv
      rw [k1, nc_bV_v] at hl
      have sv : mS v v3 := ((s1.tr s2).tr vPsh_S).tr n2.mF.mS
      have Pr : Pre w1 v3 b sz lim n f C N (i + 1) (upd bs T 21) (T + 1) D m o (dp + 1) := by
        refine ⟨k3, EX_F (EX_ps E2) k2.cF n2.mF, ?_, NS_S Nm k2.cF.cS sv⟩
        rw [n2.2.1 44 (by omega)]
        unfold vPsh
        exact si_s
      obtain ⟨r, w2, a1, a2, a3⟩ := hO _ _ _ _ _ _ _ _ (by omega) Pr
      rw [a1, nc_bI_v] at hl
      rcases a3 with ⟨rfl, fl⟩ | ⟨rfl, v4, v5, i', m', o', c1, c2, c3, c4, c5, c6, c7, c8, c9, c10, c11⟩
      · rw [if_neg (fun z => z rfl)] at hl
        exact ⟨0, w2, hl, k2.cF.cS.tr a2, Or.inl ⟨rfl, Fl_tr fl Mv sv⟩⟩
      · have := c9.2.2.1.1
        omega
    · rw [if_pos (show _ ≠ (13 : Int32) from wqn _ (j := 13) (by decide) h13)] at hl
      exact ⟨1, w, hl, cS.rf, Or.inr ⟨rfl, v, i, m, o, rfl, mS.rf, P0, h13, by omega, by omega⟩⟩
  | succ q ih =>
    intro k w v i m o hq hk P Nm
    have P0 := P
    obtain ⟨h44, Jv, u, v2, hn, Ju, hj, J2, E2, s1, s2, h44'⟩ := P
    have ho := E2.2.2.1.1
    have hkk := Tk_ok (b := b) (sz := sz) (lim := lim) i
    have hl := hL (nI k) w
    rw [if_neg (show ¬ (20 : Int32) ≤ nI k from nI_ge (show k < 20 by omega) (by decide)), sa_word Jv.2.2.1 hkk, nc_bI_v] at hl
    by_cases h13 : wq (Tk b sz lim i) = 13
    · rw [wqy _ (j := 13) (by decide) h13, if_neg (fun z => z rfl)] at hl
      have hj21 : Jn 21 u = some (none, v2) := by
        rw [hj 21 (Or.inl rfl)]
        refine Jn_0 E2.2.1.2.2.1 (by omega) ?_
        by_cases z : T = 0
        · exact Or.inl z
        · rw [E2.2.2.2.2 (T - 1) (by omega)]
          exact Or.inr ⟨(hb.resolve_left z).2, Or.inr (by decide)⟩
      have be := be_and (Nt_c.trans hn) (Jn_c.trans hj21) Ju.2.2.2.2.2.1 J2.2.2.2.2.2.1 hkk h13 E2.2.1.2.2.1 (by omega)
      obtain ⟨v3, n1, n2, n3⟩ := Ja_m (Ja_z J2 cZ.rf (vPsh_Z (T := T) (x := 21)))
      have Jw : Jt w v3 b sz lim n (i + 1) := n3
      obtain ⟨w1, k1, k2, k3⟩ := Jt_a Jw
      rw [n1, nc_bV_v] at be
      have Mv := Mo_b h44 (word_11 Jv h13 (by decide)) be
      rw [if_pos (by decide)] at Mv
      rw [k1, nc_bV_v] at hl
      have sv : mS v v3 := ((s1.tr s2).tr vPsh_S).tr n2.mF.mS
      have Pr : Pre w1 v3 b sz lim n f C N (i + 1) (upd bs T 21) (T + 1) D m o (dp + 1) := by
        refine ⟨k3, EX_F (EX_ps E2) k2.cF n2.mF, ?_, NS_S Nm k2.cF.cS sv⟩
        rw [n2.2.1 44 (by omega)]
        unfold vPsh
        exact si_s
      obtain ⟨r, w2, a1, a2, a3⟩ := hO _ _ _ _ _ _ _ _ (by omega) Pr
      rw [a1, nc_bI_v] at hl
      rcases a3 with ⟨rfl, fl⟩ | ⟨rfl, v4, v5, i', m', o', c1, c2, c3, c4, c5, c6, c7, c8, c9, c10, c11⟩
      · rw [if_neg (fun z => z rfl)] at hl
        exact ⟨0, w2, hl, k2.cF.cS.tr a2, Or.inl ⟨rfl, Fl_tr fl Mv sv⟩⟩
      · have m40 : m' < 40 := by have := c9.2.2.1.1; have := c9.2.2.1.2.1; omega
        rw [if_pos (by decide), sa_put c9.1.1 m40, nc_bV_v, nc_li_v, nI_1] at hl
        have s21 : v5.1 907 0 T = 21 := by rw [c9.2.2.2.2 T (by omega), upd_s]
        have N5 : Nt v4 = some (none, v5) := c8.trans (Nt_0 c9.2.1.2.2.1 (by omega) (Or.inr (by rw [Nat.add_sub_cancel, s21]; decide)))
        have J5 : ∀ x, x = 21 ∨ x = 22 → Jn x v5 = Jn x (vPop v5 T m' 21) := fun x hx => by
          have := Jn_1 (x := x) c9.2.1.2.2.1 (by omega) (Or.inl s21) c9.2.1.1 m40
          rw [s21] at this
          exact this
        have E6 := EX_cod (x := 13) (y := 0) (z := 0) (a := 21) (b' := 0) (c := 0) (dp' := dp + 1) (EX_p1 c9) (Or.inr (Or.inl ⟨rfl, rfl⟩)) (Or.inr (Or.inl ⟨Or.inl rfl, by omega, rfl⟩)) (by have := c9.2.2.1.2.2; omega) (by have := c9.2.2.1.2.1; omega)
        have P6 : PA (wPut w2 m' 13 0 0) v4 b sz lim n N i' bs T D (m' + 1) o' (dp + 1) := by
          refine ⟨c4, Ja_z c6 wPut_Z mZ.rf, v5, vPop v5 T m' 21, N5, Ja_z c7 wPut_Z mZ.rf, J5, Ja_z c7 wPut_Z vPop_Z, E6, c3, vPop_S, ?_⟩
          unfold vPop
          rw [vCod_k (by decide), si_k (by decide)]
          exact c5
        obtain ⟨r, w7, d1, d2, d3⟩ := ih (k + 1) (wPut w2 m' 13 0 0) v4 i' (m' + 1) o' (by omega) (by omega) P6 (NS_S Nm ((k2.cF.cS.tr a2).tr wPut_S) (sv.tr c2))
        refine ⟨r, w7, hl.trans d1, ((k2.cF.cS.tr a2).tr wPut_S).tr d2, ?_⟩
        rcases d3 with ⟨r0, fl⟩ | ⟨r0, v7, i7, m7, o7, e1, e2, e3, e4, e5, e6⟩
        · exact Or.inl ⟨r0, Fl_tr fl (Mv.trans c1) (sv.tr c2)⟩
        · exact Or.inr ⟨r0, v7, i7, m7, o7, (Mv.trans c1).trans e1, (sv.tr c2).tr e2, e3, e4, by omega, by omega⟩
    · rw [if_pos (show _ ≠ (13 : Int32) from wqn _ (j := 13) (by decide) h13)] at hl
      exact ⟨1, w, hl, cS.rf, Or.inr ⟨rfl, v, i, m, o, rfl, mS.rf, P0, h13, by omega, by omega⟩⟩
theorem all_step (hA : ∀ w, A2 w = nc_bI (A w) fun r2 w1 =>
  if r2 ≠ 0 then
    L 0 w1
  else
    some (some (.inl 0), w1)) (hL : ∀ x w, L x w = if (20 : Int32) ≤ x then
    some (some (.inl 1), w)
  else
    nc_bI (nc_Call m_X10_word [tO] w) fun r2 w1 =>
    if r2 ≠ 13 then
      some (some (.inl 1), w1)
    else
      nc_bV (nc_Call m_X10_next [tO] w1) fun w3 =>
      nc_bI (A w3) fun r5 w4 =>
      if r5 ≠ 0 then
        nc_bV (nc_Call m_X9_put [sO, .inl 13, .inl 0, .inl 0] w4) fun w6 =>
        nc_li (x + 1) fun x7 =>
        L x7 w6
      else
        some (some (.inl 0), w4)) (hO : SpO b sz lim n f C N D A) (hD : D ≤ 9) : SpA b sz lim n f C N D A2 := by
  intro w v i bs T m o dp hT hb P
  have hl := hA w
  obtain ⟨r, w1, a1, a2, a3⟩ := hO _ _ _ _ _ _ _ _ (by omega) P
  rw [a1, nc_bI_v] at hl
  rcases a3 with ⟨rfl, fl⟩ | ⟨rfl, v4, v5, i', m', o', c1, c2, c3, c4, c5, c6, c7, c8, c9, c10, c11⟩
  · rw [if_neg (fun z => z rfl)] at hl
    exact ⟨0, w1, hl, a2, Or.inl ⟨rfl, fl⟩⟩
  · rw [if_pos (by decide)] at hl
    have N5 : Nt v4 = some (none, v5) := by
      refine c8.trans (Nt_0 c9.2.1.2.2.1 (by omega) ?_)
      by_cases z : T = 0
      · exact Or.inl z
      · rw [c9.2.2.2.2 (T - 1) (by omega)]
        exact Or.inr (hb.resolve_left z).1
    have P1 : PA w1 v4 b sz lim n N i' bs T D m' o' (dp + 1) := ⟨c4, c6, v5, v5, N5, c7, fun _ _ => rfl, c7, c9, c3, mS.rf, c5⟩
    obtain ⟨r, w7, d1, d2, d3⟩ := all_loop hL hO hD hT hb 20 0 w1 v4 i' m' o' (by omega) (by omega) P1 (NS_S P.2.2.2 a2 c2)
    refine ⟨r, w7, hl.trans d1, a2.tr d2, ?_⟩
    rcases d3 with ⟨r0, fl⟩ | ⟨r0, v7, i7, m7, o7, e1, e2, e3, e4, e5, e6⟩
    · exact Or.inl ⟨r0, Fl_tr fl c1 c2⟩
    · exact Or.inr ⟨r0, v7, i7, m7, o7, c1.trans e1, c2.tr e2, e3, e4, by omega, by omega⟩
end SG
