/-! A sentence: one. -/
section SF
variable {w w' v v' : nc_H} {b : Nat → Nat} {sz lim n i : Nat} {t : Tok} {f C N T D m o dp : Nat} {bs : Nat → Int32} {A A1 A3 : nc_H → Option nc_R}
/-- as one, all or any of them begins -/
def Pre (w v : nc_H) (b : Nat → Nat) (sz lim n f C N i : Nat) (bs : Nat → Int32) (T D m o dp : Nat) : Prop := Ja w v b sz lim n i ∧ EX w v bs T D m o dp N ∧ v.1 12 0 44 = 0 ∧ NS w v f C N
def Fl (w' v : nc_H) : Prop := ∃ v', FQ w' v' ∧ mS v v' ∧ Mo v = some (some (.inl (-1 - v'.1 12 0 16)), v')
def SpO (b : Nat → Nat) (sz lim n f C N D : Nat) (A : nc_H → Option nc_R) : Prop := ∀ w v i bs T m o dp, T + 1 ≤ 3 * D → Pre w v b sz lim n f C N i bs T D m o dp → ∃ r w', A w = some (some (.inl r), w') ∧ cS w w' ∧ ((r = 0 ∧ Fl w' v) ∨ (r = 1 ∧ ∃ v' v2 i' m' o', Mo v = Mo v' ∧ mS v v' ∧ mS v' v2 ∧ v'.1 12 0 44 = 1 ∧ v2.1 12 0 44 = 1 ∧ Ja w' v' b sz lim n i' ∧ Ja w' v2 b sz lim n i' ∧ Nt v' = Nt v2 ∧ EX w' v2 bs T D m' o' (dp + 1) N ∧ o + 1 ≤ o' ∧ 2 * o + m' + 1 ≤ 2 * o' + m))
/-- behind all -/
def PA (w' v' : nc_H) (b : Nat → Nat) (sz lim n N i' : Nat) (bs : Nat → Int32) (T D m' o' dp' : Nat) : Prop := v'.1 12 0 44 = 1 ∧ Ja w' v' b sz lim n i' ∧ ∃ u v2, Nt v' = some (none, u) ∧ Ja w' u b sz lim n i' ∧ (∀ x, x = 21 ∨ x = 22 → Jn x u = Jn x v2) ∧ Ja w' v2 b sz lim n i' ∧ EX w' v2 bs T D m' o' dp' N ∧ mS v' u ∧ mS u v2 ∧ v2.1 12 0 44 = 1
def SpA (b : Nat → Nat) (sz lim n f C N D : Nat) (A : nc_H → Option nc_R) : Prop := ∀ w v i bs T m o dp, T + 2 ≤ 3 * D → (T = 0 ∨ (bs (T - 1) ≠ 20 ∧ bs (T - 1) ≠ 21)) → Pre w v b sz lim n f C N i bs T D m o dp → ∃ r w', A w = some (some (.inl r), w') ∧ cS w w' ∧ ((r = 0 ∧ Fl w' v) ∨ (r = 1 ∧ ∃ v' i' m' o', Mo v = Mo v' ∧ mS v v' ∧ PA w' v' b sz lim n N i' bs T D m' o' (dp + 1) ∧ wq (Tk b sz lim i') ≠ 13 ∧ o + 1 ≤ o' ∧ 2 * o + m' + 1 ≤ 2 * o' + m))
/-- behind any -/
def PC (w' v' : nc_H) (b : Nat → Nat) (sz lim n N i' : Nat) (bs : Nat → Int32) (T D m' o' dp' : Nat) : Prop := v'.1 12 0 44 = 1 ∧ Ja w' v' b sz lim n i' ∧ ∃ u v2, Nt v' = some (none, u) ∧ Ja w' u b sz lim n i' ∧ Jn 22 u = some (none, v2) ∧ Ja w' v2 b sz lim n i' ∧ EX w' v2 bs T D m' o' dp' N ∧ mS v' u ∧ mS u v2 ∧ v2.1 12 0 44 = 1
def SpC (b : Nat → Nat) (sz lim n f C N D : Nat) (A : nc_H → Option nc_R) : Prop := ∀ w v i bs T m o dp, T + 3 ≤ 3 * D → (T = 0 ∨ bs (T - 1) = 23) → Pre w v b sz lim n f C N i bs T D m o dp → ∃ r w', A w = some (some (.inl r), w') ∧ cS w w' ∧ ((r = 0 ∧ Fl w' v) ∨ (r = 1 ∧ ∃ v' i' m' o', Mo v = Mo v' ∧ mS v v' ∧ PC w' v' b sz lim n N i' bs T D m' o' (dp + 1) ∧ wq (Tk b sz lim i') ≠ 13 ∧ wq (Tk b sz lim i') ≠ 12 ∧ o + 1 ≤ o' ∧ 2 * o + m' + 1 ≤ 2 * o' + m))
theorem Fl_tr {v0 : nc_H} (h : Fl w' v) (e : Mo v0 = Mo v) (s : mS v0 v) : Fl w' v0 := by
  obtain ⟨v', a, c, d⟩ := h
  exact ⟨v', a, s.tr c, e.trans d⟩
theorem NS_S (h : NS w v f C N) (hc : cS w w') (hm : mS v v') : NS w' v' f C N := NS_z h (hc 236 0 (by omega) (by omega)).2 (hm.1 877 0 (by omega)).2 (hm.1 874 0 (by omega)).1
theorem EX_pu {x : Int32} (h : EX w v bs T D m o dp N) : EX w (vPu v T D x) (upd bs T x) (T + 1) (D + 1) m o dp N := by
  obtain ⟨a, ⟨b1, b2, b3, b4⟩, c, d, e⟩ := h
  have k : ∀ k, k ≠ 42 → k ≠ 43 → (vPu v T D x).1 12 0 k = v.1 12 0 k := fun k h1 h2 => by
    unfold vPu
    rw [si_k h2, si_k h1, si_t (by decide)]
  refine ⟨a, ⟨by rw [k 40 (by decide) (by decide)]; exact b1, by rw [k 41 (by decide) (by decide)]; exact b2, ?_, si_s⟩, c, CD_eq d rfl rfl rfl ?_, fun j hj => ?_⟩
  · unfold vPu
    rw [si_k (by decide), si_s]
  · unfold vPu
    rw [si_t (by decide), si_t (by decide), si_t (by decide)]
  · unfold vPu
    rw [si_t (by decide), si_t (by decide)]
    by_cases q : j = T
    · rw [q, si_s, upd_s]
    · rw [si_k q, upd_n q]
      exact e j (by omega)
theorem vPu_Z {x : Int32} : mZ v (vPu v T D x) := ((mZ.rf.si ⟨by decide, by decide⟩).sk (by decide)).sk (by decide)
theorem vPu_S {x : Int32} : mS v (vPu v T D x) := ((mS.rf.si (by omega)).sk (by omega)).sk (by omega)
theorem EX_po {x : Int32} {D' : Nat} (h : EX w v (upd bs T x) (T + 1) D m o dp N) : EX w (nc_si (nc_si v 12 0 42 (nI T)) 12 0 43 (nI D')) bs T D' m o dp N := by
  obtain ⟨a, ⟨b1, b2, b3, b4⟩, c, d, e⟩ := h
  refine ⟨a, ⟨by rw [si_k (by decide), si_k (by decide)]; exact b1, by rw [si_k (by decide), si_k (by decide)]; exact b2, by rw [si_k (by decide), si_s], si_s⟩, c, CD_eq d rfl rfl rfl (by rw [si_t (by decide), si_t (by decide)]), fun j hj => ?_⟩
  rw [si_t (by decide), si_t (by decide), e j (by omega), upd_n (by omega)]
/-- the model at the end of the text, with more on its stack -/
theorem Mo_s {u v2 : nc_H} {r : Int32} {v3 : nc_H} (h44 : v.1 12 0 44 = 1) (h11 : v.1 12 0 11 = 0) (hn : Nt v = some (none, u)) (hj : Jn 22 u = some (none, v2)) (h42 : v2.1 12 0 42 = nI (T + 1)) (hT : T < 45) (hb : nc_Call m_X12_bad [mO, .inl 1] v2 = some (some (.inl r), v3)) : Mo v = some (some (.inl ((-1) - (v3.1 12 0 16))), v3) := by
  have z : ¬ v.1 12 0 44 = 0 := by rw [h44]; decide
  show nc_Run m_X12_sentence 48 [some mO, some (.inl 1), none] [] v = _
  rw [qr_X12_sentence_48, if_neg (by decide), if_neg z, if_neg (fun y => y h11), Nt_c, hn, nc_bV_v, Jn_c, hj, nc_bV_v, h42, if_neg (fun y => by have := (le0 (T := T + 1) (by omega)).mp y; omega), hb, nc_bI_v]
theorem one_step (hA : ∀ w, A w = ONE (nI D) A1 A3 w) (hD : 1 ≤ D ∧ D ≤ 9) (h1 : D ≤ 8 → SpO b sz lim n f C N (D + 1) A1) (h3 : D ≤ 8 → SpC b sz lim n f C N (D + 1) A3) : SpO b sz lim n f C N D A := by
  intro w v i bs T m o dp hT P
  obtain ⟨J, E, e44, Nm⟩ := P
  have hk := Tk_ok (b := b) (sz := sz) (lim := lim) i
  have CTt := J.2.2.1
  have MTt := J.2.2.2.2.2.1
  have ho20 := E.2.2.1.1
  have hmd := E.2.2.1.2.1
  have hdo := E.2.2.1.2.2
  rw [hA]
  generalize ht : Tk b sz lim i = t at hk CTt MTt
  by_cases g0 : isO t ∨ (14 ≤ wq t ∧ wq t < 24)
  · have o38 := opd_38 MTt hk g0
    by_cases g1 : o = 20 ∨ D = 9
    · -- too many
      obtain ⟨w2, v2, f1, f2, f3, f4, f5⟩ := jt_fail (w := w) (v := v) (t := t) 4 CTt.1 MTt.2.1
      refine ⟨0, w2, ?_, f3.cS, Or.inl ⟨rfl, v2, f5, f4.mS, ?_⟩⟩
      · rw [one_full CTt hk g0 E.1.2 ho20 hD.2 g1, f1, nc_bI_v, nc_z_0]
      · rw [Mo_o (r := 0) (v1 := v2) e44 (by rw [o38, opd_full E.2.1.2.1 E.2.1.2.2.2 ho20 hD.2 g1, f2, nc_bI_v, nc_z_0]), if_neg (fun z => z rfl)]
    · have ho : o < 20 := by omega
      have hD8 : D ≤ 8 := by omega
      have E1 := EX_one E ho
      have J1 : Ja (nc_si w 9 1 4 (nI (o + 1))) (nc_si v 12 0 41 (nI (o + 1))) b sz lim n i := Ja_z J (cZ.rf.si ⟨by decide, by decide, by decide, by decide⟩) (mZ.rf.sk (by decide))
      obtain ⟨v4, n1, n2, n3⟩ := Ja_m J1
      have E4 : EX (nc_si w 9 1 4 (nI (o + 1))) v4 bs T D m (o + 1) dp N := EX_F E1 cF.rf n2.mF
      have s4 : mS v v4 := (mS.rf.sk (by omega)).tr n2.mF.mS
      have c4 : cS w (nc_si w 9 1 4 (nI (o + 1))) := cS.rf.si (by omega)
      have v44 : v4.1 12 0 44 = 0 := by rw [n2.2.1 44 (by omega), si_k (by decide)]; exact e44
      by_cases g2 : isO t ∨ wq t = 14
      · -- more within
        obtain ⟨w5, k1, k2, k3⟩ := Jt_a n3
        have ov := o38.trans (opd_not (wq t = 14) (isO t) (by omega) (fun z => by have := isO_w z.2; omega) E.2.1.2.1 E.2.1.2.2.2 ho hD8 n1 E4.2.1.2.2.1 (by omega) E4.2.1.2.2.2)
        have Mv : ∀ x : Int32, (if wq t = 14 then 20 else 23) = x → Mo v = Mo (vPu v4 T D x) := fun x hx => by
          rw [Mo_o e44 ov, if_pos (by decide), hx]
        have Pr5 : ∀ x : Int32, Pre w5 (vPu v4 T D x) b sz lim n f C N (i + 1) (upd bs T x) (T + 1) (D + 1) m (o + 1) dp := fun x => by
          refine ⟨Ja_z k3 cZ.rf vPu_Z, EX_pu (EX_F E4 k2.cF mF.rf), ?_, NS_S Nm (c4.tr k2.cF.cS) (s4.tr vPu_S)⟩
          unfold vPu
          rw [si_k (by decide), si_k (by decide), si_t (by decide)]
          exact v44
        by_cases g3 : wq t = 14
        · -- not
          have cw := one_not (A1 := A1) (A3 := A3) CTt hk g3 E.1.2 ho hD8
          rw [k1, nc_bV_v] at cw
          obtain ⟨r, w6, a1, a2, a3⟩ := h1 hD8 _ _ _ _ _ _ _ _ (by omega) (Pr5 20)
          rw [a1, nc_bI_v] at cw
          rcases a3 with ⟨rfl, fl⟩ | ⟨rfl, v6, v7, i', m', o', c1, c2, c3, c4', c5, c6, c7, c8, c9, c10, c11⟩
          · rw [if_neg (fun z => z rfl)] at cw
            exact ⟨0, w6, cw, (c4.tr k2.cF.cS).tr a2, Or.inl ⟨rfl, Fl_tr fl (Mv 20 (if_pos g3)) (s4.tr vPu_S)⟩⟩
          · have m40 : m' < 40 := by have := c9.2.2.1.1; have := c9.2.2.1.2.1; omega
            rw [if_pos (by decide), sa_put c9.1.1 m40, nc_bV_v] at cw
            have s20 : v7.1 907 0 T = 20 := by rw [c9.2.2.2.2 T (by omega), upd_s]
            have N7 := Nt_1 c9.2.1.2.2.1 (by omega) s20 c9.2.1.2.2.2 c9.2.1.1 m40
            have E7 := EX_po (D' := D) c9
            have E8 := EX_cod (x := 14) (y := 0) (z := 0) (a := 20) (b' := 0) (c := 0) E7 (Or.inl ⟨rfl, rfl⟩) (Or.inl ⟨rfl, by omega, rfl⟩) c9.2.2.1.2.2 (by omega)
            have z7 : mZ v7 (vCod (nc_si (nc_si v7 12 0 42 (nI T)) 12 0 43 (nI D)) m' 20 0 0) := ((mZ.rf.sk (by decide)).sk (by decide)).tr vCod_Z
            refine ⟨1, _, cw, ((c4.tr k2.cF.cS).tr a2).tr wPut_S, Or.inr ⟨rfl, v6, _, i', m' + 1, o', (Mv 20 (if_pos g3)).trans c1, (s4.tr vPu_S).tr c2, c3.tr (((mS.rf.sk (by omega)).sk (by omega)).tr vCod_S), c4', ?_, Ja_z c6 wPut_Z mZ.rf, Ja_z c7 wPut_Z z7, c8.trans N7, E8, by omega, by omega⟩⟩
            rw [vCod_k (by decide), si_k (by decide), si_k (by decide)]
            exact c5
        · -- open
          have gO : isO t := g2.resolve_right g3
          have cw := one_open (A1 := A1) (A3 := A3) CTt hk gO E.1.2 ho hD8
          rw [k1, nc_bV_v] at cw
          obtain ⟨r, w6, a1, a2, a3⟩ := h3 hD8 _ _ _ _ _ _ _ _ (by omega) (Or.inr (by rw [Nat.add_sub_cancel, upd_s])) (Pr5 23)
          rw [a1, nc_bI_v] at cw
          rcases a3 with ⟨rfl, fl⟩ | ⟨rfl, v6, i', m', o', c1, c2, ⟨c3, c4', u, v7, c5, c6, c7, c8, c9, c10, c11, c12⟩, d1, d2, d3, d4⟩
          · rw [if_pos rfl] at cw
            exact ⟨0, w6, cw, (c4.tr k2.cF.cS).tr a2, Or.inl ⟨rfl, Fl_tr fl (Mv 23 (if_neg g3)) (s4.tr vPu_S)⟩⟩
          · rw [if_neg (by decide)] at cw
            have hk' := Tk_ok (b := b) (sz := sz) (lim := lim) i'
            have Mv' := (Mv 23 (if_neg g3)).trans c1
            have sv' := (s4.tr (vPu_S (T := T) (D := D) (x := 23))).tr c2
            have h42 := c9.2.1.2.2.1
            have be := be_els (v := v6) (u := u) (v2 := v7) (Nt_c.trans c5) (Jn_c.trans c7) c6.2.2.2.2.2.1 c8.2.2.2.2.2.1 hk' d1 d2
            have e41 : nc_Call m_X10_mustBeSign [tO, .inl 41] w6 = nc_Call m_X10_mustBeSign [tO, .inl (nI 41)] w6 := rfl
            rcases sa_mustBe (c := 41) c4'.2.2.1 hk' (by decide) with ⟨y1, y2⟩ | ⟨y1, w7, y2, y3, y4, y5⟩
            · -- closed
              rw [e41, y2, nc_bI_v, if_pos (by decide)] at cw
              have n42 : ¬ v7.1 12 0 42 = 0 := by
                rw [h42]
                exact fun e => by have := (nI_lit (k := T + 1) (by omega) 0 (by decide)).mp e; omega
              rw [if_neg (fun z => z.elim (fun z => z y1) n42), h42, tp, c9.2.1.2.2.2, tp] at be
              have z7 : mZ v7 (nc_si (nc_si v7 12 0 42 (nI T)) 12 0 43 (nI D)) := (mZ.rf.sk (by decide)).sk (by decide)
              obtain ⟨v8, l1, l2, l3⟩ := Ja_m (Ja_z c8 cZ.rf z7)
              obtain ⟨w8, q1, q2, q3⟩ := Jt_a l3
              rw [l1, nc_bV_v] at be
              rw [q1, nc_bV_v] at cw
              have h11 : v6.1 12 0 11 ≠ 0 := by
                rw [c4'.2.2.2.2.2.1.1]
                exact fun z => by have := (km_i hk').2.2.2.mp z; omega
              have Mv8 := Mo_b c3 h11 be
              rw [if_pos (by decide)] at Mv8
              have E8 : EX w8 v8 bs T D m' o' (dp + 1) N := EX_F (EX_po c9) q2.cF l2.mF
              have e8 : v8.1 12 0 44 = 1 := by rw [l2.2.1 44 (by omega), si_k (by decide), si_k (by decide)]; exact c12
              exact ⟨1, w8, cw, ((c4.tr k2.cF.cS).tr a2).tr q2.cF.cS, Or.inr ⟨rfl, v8, v8, i' + 1, m', o', Mv'.trans Mv8, sv'.tr ((c10.tr c11).tr (((mS.rf.sk (by omega)).sk (by omega)).tr l2.mF.mS)), mS.rf, e8, e8, q3, q3, rfl, E8, by omega, by omega⟩⟩
            · -- not closed
              rw [e41, y2, nc_bI_v, if_neg (fun z => z rfl)] at cw
              obtain ⟨v8, b1, b2, b3, b4⟩ := sm_bad (v := v7) (t := Tk b sz lim i') 1 c8.2.2.2.2.2.1.2.1
              have fq : FQ w7 v8 := ⟨y4.trans b3.symm, y5.trans b4.symm⟩
              refine ⟨0, w7, cw, ((c4.tr k2.cF.cS).tr a2).tr y3.cS, Or.inl ⟨rfl, Fl_tr (v := v6) ⟨v8, fq, (c10.tr c11).tr b2.mS, ?_⟩ Mv' sv'⟩⟩
              by_cases h11 : v6.1 12 0 11 = 0
              · exact Mo_s c3 h11 c5 c7 h42 (by omega) b1
              · rw [if_pos (Or.inl y1), b1, nc_bI_v, nc_z_0] at be
                rw [Mo_b c3 h11 be, if_neg (fun z => z rfl)]
      · -- a plain one
        have g4 : 15 ≤ wq t ∧ wq t < 24 := by
          rcases g0 with g | g
          · exact absurd (Or.inl g) g2
          · exact ⟨by omega, g.2⟩
        obtain ⟨k, hk9, hq⟩ : ∃ k, k < 9 ∧ wq t = 15 + k := ⟨wq t - 15, by omega, by omega⟩
        have cw := one_leaf (A1 := A1) (A3 := A3) CTt hk hk9 hq E.1.2 ho hD8
        rw [tI_f (fun z => g2 (Or.inr z)), tI_f (fun z => g2 (Or.inl z)), opd_leaf E.2.1.2.1 E.2.1.2.2.2 ho hD8 n1] at o38
        have lk : lf t = nI k := by
          unfold lf
          rw [if_pos g4, hq, Nat.add_sub_cancel_left]
        rw [lk] at o38
        obtain ⟨r, w6, v6, a1, a2, a3, a4, a5⟩ := lf_any hk9 n3 (NS_S Nm c4 s4) E4 (by omega) (by omega)
        rw [a1] at cw
        rw [a2] at o38
        have Mv := Mo_o e44 o38
        rcases a5 with ⟨rfl, fq⟩ | ⟨rfl, i', d1, d2, d3⟩
        · rw [if_neg (fun z => z rfl)] at Mv
          exact ⟨0, w6, cw, c4.tr a3, Or.inl ⟨rfl, v6, fq, s4.tr a4, Mv⟩⟩
        · rw [if_pos (by decide)] at Mv
          exact ⟨1, w6, cw, c4.tr a3, Or.inr ⟨rfl, v6, v6, i', m + 1, o + 1, Mv, s4.tr a4, mS.rf, d1, d1, d2, d2, rfl, d3, by omega, by omega⟩⟩
  · -- no one
    obtain ⟨w2, v2, f1, f2, f3, f4, f5⟩ := jt_fail (w := w) (v := v) (t := t) 1 CTt.1 MTt.2.1
    have g1 : ¬ isO t := fun z => g0 (Or.inl z)
    have g2 : ¬ (14 ≤ wq t ∧ wq t < 24) := fun z => g0 (Or.inr z)
    refine ⟨0, w2, ?_, f3.cS, Or.inl ⟨rfl, v2, f5, f4.mS, ?_⟩⟩
    · rw [one_bad CTt hk g1 g2, f1, nc_bI_v, nc_z_0]
    · rw [Mo_o (r := 0) (v1 := v2) e44 (by rw [opd_bad MTt hk g1 g2, f2, nc_bI_v, nc_z_0]), if_neg (fun z => z rfl)]
end SF
