/-! New names, of both tapes. -/
section FR
variable {w w' v v' : nc_H} {b : Nat → Nat} {sz lim n i : Nat} {t : Tok} {dn f C N B fs sl mn s : Nat}
/-- heaps with the same tape -/
def cZ (w w' : nc_H) : Prop := w'.1 10 0 = w.1 10 0 ∧ w'.1 743 0 = w.1 743 0 ∧ w'.1 744 0 = w.1 744 0 ∧ w'.1 745 0 = w.1 745 0 ∧ w'.2 10 0 = w.2 10 0 ∧ w'.2 746 0 = w.2 746 0 ∧ w'.2 742 0 = w.2 742 0 ∧ w'.2 878 0 = w.2 878 0
def mZ (v v' : nc_H) : Prop := (v'.1 12 0 3 = v.1 12 0 3 ∧ v'.1 12 0 4 = v.1 12 0 4 ∧ v'.1 12 0 5 = v.1 12 0 5 ∧ v'.1 12 0 11 = v.1 12 0 11 ∧ v'.1 12 0 12 = v.1 12 0 12 ∧ v'.1 12 0 14 = v.1 12 0 14 ∧ v'.1 12 0 15 = v.1 12 0 15) ∧ v'.2 12 0 17 = v.2 12 0 17 ∧ v'.1 869 0 = v.1 869 0 ∧ v'.2 742 0 = v.2 742 0 ∧ v'.2 878 0 = v.2 878 0
theorem cZ.rf : cZ w w := ⟨rfl, rfl, rfl, rfl, rfl, rfl, rfl, rfl⟩
theorem cZ.tr {w'' : nc_H} (h : cZ w w') (g : cZ w' w'') : cZ w w'' := ⟨g.1.trans h.1, g.2.1.trans h.2.1, g.2.2.1.trans h.2.2.1, g.2.2.2.1.trans h.2.2.2.1, g.2.2.2.2.1.trans h.2.2.2.2.1, g.2.2.2.2.2.1.trans h.2.2.2.2.2.1, g.2.2.2.2.2.2.1.trans h.2.2.2.2.2.2.1, g.2.2.2.2.2.2.2.trans h.2.2.2.2.2.2.2⟩
theorem cZ.si {t a k : Nat} {x : Int32} (h : cZ w w') (ht : t ≠ 10 ∧ t ≠ 743 ∧ t ≠ 744 ∧ t ≠ 745) : cZ w (nc_si w' t a k x) := by
  refine h.tr ⟨?_, ?_, ?_, ?_, rfl, rfl, rfl, rfl⟩
  · rw [si_t (fun e => ht.1 e.symm)]
  · rw [si_t (fun e => ht.2.1 e.symm)]
  · rw [si_t (fun e => ht.2.2.1 e.symm)]
  · rw [si_t (fun e => ht.2.2.2 e.symm)]
theorem cZ.sL {t a k : Nat} {x : Int64} (h : cZ w w') (ht : t ≠ 10 ∧ t ≠ 742 ∧ t ≠ 746 ∧ t ≠ 878) : cZ w (nc_sl w' t a k x) := by
  refine h.tr ⟨rfl, rfl, rfl, rfl, ?_, ?_, ?_, ?_⟩
  · rw [sl_t (fun e => ht.1 e.symm)]
  · rw [sl_t (fun e => ht.2.2.1 e.symm)]
  · rw [sl_t (fun e => ht.2.1 e.symm)]
  · rw [sl_t (fun e => ht.2.2.2 e.symm)]
theorem mZ.rf : mZ v v := ⟨⟨rfl, rfl, rfl, rfl, rfl, rfl, rfl⟩, rfl, rfl, rfl, rfl⟩
theorem mZ.tr {v'' : nc_H} (h : mZ v v') (g : mZ v' v'') : mZ v v'' := ⟨⟨g.1.1.trans h.1.1, g.1.2.1.trans h.1.2.1, g.1.2.2.1.trans h.1.2.2.1, g.1.2.2.2.1.trans h.1.2.2.2.1, g.1.2.2.2.2.1.trans h.1.2.2.2.2.1, g.1.2.2.2.2.2.1.trans h.1.2.2.2.2.2.1, g.1.2.2.2.2.2.2.trans h.1.2.2.2.2.2.2⟩, g.2.1.trans h.2.1, g.2.2.1.trans h.2.2.1, g.2.2.2.1.trans h.2.2.2.1, g.2.2.2.2.trans h.2.2.2.2⟩
theorem mZ.si {t a k : Nat} {x : Int32} (h : mZ v v') (ht : t ≠ 12 ∧ t ≠ 869) : mZ v (nc_si v' t a k x) := by
  have e : (nc_si v' t a k x).1 12 0 = v'.1 12 0 := by rw [si_t (fun e => ht.1 e.symm)]
  refine h.tr ⟨⟨?_, ?_, ?_, ?_, ?_, ?_, ?_⟩, rfl, ?_, rfl, rfl⟩
  · rw [e]
  · rw [e]
  · rw [e]
  · rw [e]
  · rw [e]
  · rw [e]
  · rw [e]
  · rw [si_t (fun e => ht.2 e.symm)]
theorem mZ.sk {k : Nat} {x : Int32} (h : mZ v v') (hk : 16 ≤ k) : mZ v (nc_si v' 12 0 k x) := by
  refine h.tr ⟨⟨si_k (by omega), si_k (by omega), si_k (by omega), si_k (by omega), si_k (by omega), si_k (by omega), si_k (by omega)⟩, rfl, ?_, rfl, rfl⟩
  rw [si_t (by decide)]
theorem mZ.sL {t a k : Nat} {x : Int64} (h : mZ v v') (ht : t ≠ 12 ∧ t ≠ 742 ∧ t ≠ 878) : mZ v (nc_sl v' t a k x) := by
  refine h.tr ⟨⟨rfl, rfl, rfl, rfl, rfl, rfl, rfl⟩, ?_, rfl, ?_, ?_⟩
  · rw [sl_t (fun e => ht.1 e.symm)]
  · rw [sl_t (fun e => ht.2.1 e.symm)]
  · rw [sl_t (fun e => ht.2.2 e.symm)]
theorem TW_z (h : TW w) (h1 : w'.2 742 0 = w.2 742 0) (h2 : w'.2 878 0 = w.2 878 0) : TW w' := by
  unfold TW
  rw [h1, h2]
  exact h
theorem CS_z (h : CS w b sz lim n) (z : cZ w w') : CS w' b sz lim n := by
  obtain ⟨z1, z2, z3, z4, z5, z6, -, -⟩ := z
  unfold CS CE at *
  rw [z1, z2, z3, z4, z6]
  exact h
theorem CT_z (h : CT w t) (z : cZ w w') : CT w' t := by
  unfold CT at *
  rw [z.1, z.2.2.2.2.1]
  exact h
theorem CP_z (h : CP w b sz lim n i) (z : cZ w w') : CP w' b sz lim n i := by
  refine ⟨?_, fun q => CT_z (h.2 q) z⟩
  rw [z.1]
  exact h.1
theorem MS_z (h : MS v b sz lim) (z : mZ v v') : MS v' b sz lim := by
  obtain ⟨z1, -, z3, -, -⟩ := z
  unfold MS at *
  rw [z1.1, z1.2.2.1, z1.2.2.2.2.2.2, z3]
  exact h
theorem MT_z (h : MT v t) (z : mZ v v') : MT v' t := by
  obtain ⟨z1, z2, -, -, -⟩ := z
  unfold MT at *
  rw [z1.2.1, z1.2.2.2.1, z1.2.2.2.2.1, z1.2.2.2.2.2.1, z2]
  exact h
theorem Jt_z (J : Jt w v b sz lim n i) (zc : cZ w w') (zm : mZ v v') : Jt w' v' b sz lim n i := by
  obtain ⟨j1, j2, j3, j4, j5, j6⟩ := J
  exact ⟨CS_z j1 zc, CP_z j2 zc, MS_z j3 zm, MT_z j4 zm, TW_z j5 zc.2.2.2.2.2.2.1 zc.2.2.2.2.2.2.2, TW_z j6 zm.2.2.2.1 zm.2.2.2.2⟩
theorem nm_X {X X' Y Y' : Nat → Int64} (hn : nmOK X Y f C N) (hX : X' = X) (hY : ∀ k, Y' k = Y k) : nmOK X' Y' f C N := by
  have : Y' = Y := funext hY
  rw [hX, this]
  exact hn
/-- the next TOKEN as a name of a sort -/
theorem jt_named (J : Jt w v b sz lim n i) (hn : nmOK (w.2 236 dn) (fun k => v.2 877 0 (B + k)) f C N) (hf : f ≤ 4) (hC : C ≤ 8) (hN : N ≤ 10) (hB : B ≤ 22) (hs : srt f C N fs sl mn) : ∃ w1, nc_Call m_X10_next [tO] w = some (none, w1) ∧ cX w w1 ∧ ((∃ g v', g < mn ∧ nc_Call m_X2_named [.inr (.inr (2, dn)), tO, .inl (nI fs), .inl (nI sl)] w1 = some (some (.inl (nI g)), w1) ∧ nc_Call m_X12_takesName [mO, .inl (nI (B + fs)), .inl (nI mn)] v = some (some (.inl 1), v') ∧ mF v v' ∧ v'.1 12 0 18 = nI g ∧ Jt w1 v' b sz lim n (i + 1)) ∨ (∃ w' v', nc_Call m_X2_named [.inr (.inr (2, dn)), tO, .inl (nI fs), .inl (nI sl)] w1 = some (some (.inl (-1)), w') ∧ nc_Call m_X12_takesName [mO, .inl (nI (B + fs)), .inl (nI mn)] v = some (some (.inl 0), v') ∧ cF w w' ∧ mF v v' ∧ FQ w' v')) := by
  obtain ⟨w1, a1, a2, a3, a4, a5, a6⟩ := jt_c J
  obtain ⟨j1, j2, j3, j4, j5, j6⟩ := J
  have hk := Tk_ok (b := b) (sz := sz) (lim := lim) i
  refine ⟨w1, a1, a2, ?_⟩
  have hn1 : nmOK (w1.2 236 dn) (fun k => v.2 877 0 (B + k)) f C N := nm_X hn ((a2.1 236 dn (by omega)).2) (fun _ => rfl)
  rcases jt_looks a5 j4 hk j6 hn1 hf hC hN hB hs with ⟨g, v1, g1, g2, g3, g4⟩ | ⟨w', v', g1, g2, g3, g4, g5⟩
  · have z : mZ v v1 := by rw [g4]; exact mZ.rf.sk (by decide)
    obtain ⟨v2, e1, e2, e3, e4, e5⟩ := jt_m (MS_z j3 z) (MT_z j4 z) (TW_z j6 z.2.2.2.1 z.2.2.2.2)
    refine Or.inl ⟨g, v2, g1, g2, ?_, ?_, ?_, ⟨a3, a4, e3, e4, a6, e5⟩⟩
    · rw [qc_X12_takesName, g3, nc_bI_v, if_pos (by decide), e1, nc_bV_v]
    · refine mF.tr ?_ e2.mF
      rw [g4]
      exact mF.rf.si (by omega)
    · rw [e2.2.1 18 (by omega), g4, si_s]
  · refine Or.inr ⟨w', v', g1, ?_, a2.cF.tr g3, g4, g5⟩
    rw [qc_X12_takesName, g2, nc_bI_v, if_neg (fun q => q rfl)]
/-- a new name -/
theorem jt_fresh (J : Jt w v b sz lim n i) (hn : nmOK (w.2 236 1) (fun k => v.2 877 0 (22 + k)) f C N) (hf : f ≤ 4) (hC : C ≤ 8) (hN : N ≤ 10) (h0 : v.1 875 0 0 = nI f) (h1 : v.1 875 0 1 = nI C) (h2 : v.1 875 0 2 = nI N) (hs : s < 22) : (∃ w' v', nc_Call m_X2_nextNewName [.inr (.inr (2, 1)), tO, .inl (nI s)] w = some (some (.inl 0), w') ∧ nc_Call m_X12_fresh [mO, .inl (nI (22 + s))] v = some (some (.inl 0), v') ∧ cF w w' ∧ mF v v' ∧ FQ w' v') ∨ (∃ l w1 v', wl l ∧ l ≠ [] ∧ (∀ k, usd f C N k → w.2 236 1 k ≠ enc5 l) ∧ nc_Call m_X2_nextNewName [.inr (.inr (2, 1)), tO, .inl (nI s)] w = some (some (.inl 1), nc_sl w1 236 1 s (enc5 l)) ∧ nc_Call m_X12_fresh [mO, .inl (nI (22 + s))] v = some (some (.inl 1), v') ∧ cX w w1 ∧ mN (nc_sl v 877 0 (22 + s) (enc8 l)) v' ∧ Jt (nc_sl w1 236 1 s (enc5 l)) v' b sz lim n (i + 1)) := by
  obtain ⟨w1, a1, a2, a3, a4, a5, a6⟩ := jt_c J
  obtain ⟨j1, j2, j3, j4, j5, j6⟩ := J
  have hk := Tk_ok (b := b) (sz := sz) (lim := lim) i
  have e236 : w1.2 236 1 = w.2 236 1 := (a2.1 236 1 (by omega)).2
  have hn1 : nmOK (w1.2 236 1) (fun k => v.2 877 0 (22 + k)) f C N := nm_X hn e236 (fun _ => rfl)
  generalize ht : Tk b sz lim i = t at a5 j4 hk
  by_cases q : t.1 = 2 ∧ wi t.2.2.2.2 = 24
  · obtain ⟨hl, hl0⟩ := hk.2.2.2.1 q.1
    have hw8 := j4.2.2.2.1 q.1
    have hw5 := (a5.2.2.1 q.1).2
    have nmv : nc_Call m_X12_isName [mO] v = some (some (.inl 1), v) := by rw [sm_name j4 hk j6, tI_t q]
    have k3 : w1.1 10 0 11 = 3 := by rw [a5.2.1]; exact (kc_3 hk).mpr q
    generalize t.2.2.2.2 = l at hl hl0 hw8 hw5
    rcases sd_slotOf hn1 hf hC hN hl hl0 with ⟨k, c1, c2, c3, c4⟩ | ⟨c1, c2⟩
    · obtain ⟨w', v', b1, b2, b3, b4, b5⟩ := jt_fail (w := w1) (v := v) (t := t) 3 a5.1 j4.2.1
      refine Or.inl ⟨w', v', ?_, ?_, a2.cF.tr b3, b4, b5⟩
      · rw [qc_X2_nextNewName, a1, nc_bV_v, if_pos k3, hw5, c4, nc_bI_v, if_pos (fun z => (by decide +kernel : ∀ k, k < 22 → nI k ≠ -1) k c1 z), b1, nc_bI_v, nc_z_0]
      · have y := (nm_iff hn1 c2 hl).mp c3
        have y' : v.2 877 0 (22 + k) = enc8 l := y
        have pos : ∀ g, g < 30 → (0 : Int32) ≤ nI g := fun g hg => nI_le (a := 0) (Nat.zero_le _) (by omega)
        rw [qc_X12_fresh, nmv, nc_bI_v, if_pos (by decide), h0]
        rcases sm_seek (fr := 22) (mn := f) hw8 (by omega) with ⟨g, d1, d2, d3⟩ | ⟨d1, d2⟩
        · rw [show (22 : Int32) = nI 22 from rfl, d3, nc_bI_v, if_pos (pos g (by omega)), b2, nc_bI_v, nc_z_0]
        · rw [show (22 : Int32) = nI 22 from rfl, d2, nc_bI_v, if_neg (by decide), h1]
          rcases sm_seek (fr := 26) (mn := C) hw8 (by omega) with ⟨g, e1, e2, e3⟩ | ⟨e1, e2⟩
          · rw [show (26 : Int32) = nI 26 from rfl, e3, nc_bI_v, if_pos (pos g (by omega)), b2, nc_bI_v, nc_z_0]
          · rw [show (26 : Int32) = nI 26 from rfl, e2, nc_bI_v, if_neg (by decide), h2]
            rcases sm_seek (fr := 34) (mn := N) hw8 (by omega) with ⟨g, f1, f2, f3⟩ | ⟨f1, f2⟩
            · rw [show (34 : Int32) = nI 34 from rfl, f3, nc_bI_v, if_neg (fun z => by have := (nI_litlt (n := 0) (by omega) (by omega)).mp z; omega), b2, nc_bI_v, nc_z_0]
            · exfalso
              rcases c2 with u | u | u
              · exact d1 k u y'
              · refine e1 (k - 4) (by omega) ?_
                rw [show 26 + (k - 4) = 22 + k by omega]
                exact y'
              · refine f1 (k - 12) (by omega) ?_
                rw [show 34 + (k - 12) = 22 + k by omega]
                exact y'
    · have z : mZ v (nc_sl v 877 0 (22 + s) (enc8 l)) := mZ.rf.sL ⟨by decide, by decide, by decide⟩
      obtain ⟨v2, g1, g2, g3, g4, g5⟩ := jt_m (i := i) (MS_z j3 z) (MT_z (by rw [ht]; exact j4) z) (TW_z j6 z.2.2.2.1 z.2.2.2.2)
      have zc : cZ w1 (nc_sl w1 236 1 s (enc5 l)) := cZ.rf.sL ⟨by decide, by decide, by decide, by decide⟩
      have no : ∀ k, usd f C N k → v.2 877 0 (22 + k) ≠ enc8 l := fun k hu e => c1 k hu ((nm_iff hn1 hu hl).mpr e)
      refine Or.inr ⟨l, w1, v2, hl, hl0, fun k hu => by rw [← e236]; exact c1 k hu, ?_, ?_, a2, g2, ⟨CS_z a3 zc, CP_z a4 zc, g3, g4, TW_z a6 zc.2.2.2.2.2.2.1 zc.2.2.2.2.2.2.2, g5⟩⟩
      · rw [qc_X2_nextNewName, a1, nc_bV_v, if_pos k3, hw5, c2, nc_bI_v, if_neg (fun z => z rfl), if_neg (fun z => by have := (nI_litlt (n := 0) (by omega) (by omega)).mp z; omega), if_pos (show nI s < (22 : Int32) from (nI_litlt (n := 22) (by omega) (by omega)).mpr hs), bd8 s 22 hs (by decide), nc_lt_v, hw5]
      · rw [qc_X12_fresh, nmv, nc_bI_v, if_pos (by decide), h0]
        rcases sm_seek (fr := 22) (mn := f) hw8 (by omega) with ⟨g, d1, d2, d3⟩ | ⟨d1, d2⟩
        · exact absurd d2 (no g (Or.inl d1))
        · rw [show (22 : Int32) = nI 22 from rfl, d2, nc_bI_v, if_neg (by decide), h1]
          rcases sm_seek (fr := 26) (mn := C) hw8 (by omega) with ⟨g, e1, e2, e3⟩ | ⟨e1, e2⟩
          · exact absurd e2 (by rw [show 26 + g = 22 + (4 + g) by omega]; exact no (4 + g) (Or.inr (Or.inl ⟨by omega, by omega⟩)))
          · rw [show (26 : Int32) = nI 26 from rfl, e2, nc_bI_v, if_neg (by decide), h2]
            rcases sm_seek (fr := 34) (mn := N) hw8 (by omega) with ⟨g, f1, f2, f3⟩ | ⟨f1, f2⟩
            · exact absurd f2 (by rw [show 34 + g = 22 + (12 + g) by omega]; exact no (12 + g) (Or.inr (Or.inr ⟨by omega, by omega⟩)))
            · rw [show (34 : Int32) = nI 34 from rfl, f2, nc_bI_v, if_pos (by decide), bd8 (22 + s) 44 (by omega) (by decide), nc_lt_v, hw8, g1, nc_bV_v]
  · obtain ⟨w', v', b1, b2, b3, b4, b5⟩ := jt_fail (w := w1) (v := v) (t := t) 1 a5.1 j4.2.1
    refine Or.inl ⟨w', v', ?_, ?_, a2.cF.tr b3, b4, b5⟩
    · rw [qc_X2_nextNewName, a1, nc_bV_v, a5.2.1, if_neg (fun z => q ((kc_3 hk).mp z)), b1, nc_bI_v, nc_z_0]
    · rw [qc_X12_fresh, sm_name j4 hk j6, tI_f q, nc_bI_v, if_neg (fun z => z rfl), b2, nc_bI_v, nc_z_0]
/-- the names with one more -/
theorem nm_add {X X' Y Y' : Nat → Int64} {f' C' N' : Nat} {l : List Nat} (hn : nmOK X Y f C N) (hl : wl l) (hl0 : l ≠ []) (hf : ∀ k, usd f C N k → X k ≠ enc5 l) (hu : ∀ k, usd f' C' N' k ↔ usd f C N k ∨ k = s) (hX : ∀ k, X' k = if k = s then enc5 l else X k) (hY : ∀ k, Y' k = if k = s then enc8 l else Y k) (hs : ¬ usd f C N s) : nmOK X' Y' f' C' N' := by
  obtain ⟨n1, n2, n3⟩ := hn
  refine ⟨fun k hk => ?_, fun k hk hk2 => ?_, fun j k hj hk e => ?_⟩
  · rw [hX, hY]
    by_cases q : k = s
    · rw [if_pos q, if_pos q]
      refine ⟨l, ?_, hl.1, hl.2, rfl, rfl⟩
      cases l with
      | nil => exact absurd rfl hl0
      | cons x l => exact Nat.succ_le_succ (Nat.zero_le _)
    · rw [if_neg q, if_neg q]
      exact n1 k (((hu k).mp hk).resolve_right q)
  · rw [hX, if_neg (fun q => hk2 ((hu k).mpr (Or.inr q)))]
    exact n2 k hk (fun q => hk2 ((hu k).mpr (Or.inl q)))
  · rw [hX, hX] at e
    by_cases q : j = s
    · by_cases r : k = s
      · rw [q, r]
      · rw [if_pos q, if_neg r] at e
        exact absurd e.symm (hf k (((hu k).mp hk).resolve_right r))
    · by_cases r : k = s
      · rw [if_neg q, if_pos r] at e
        exact absurd e (hf j (((hu j).mp hj).resolve_right q))
      · rw [if_neg q, if_neg r] at e
        exact n3 j k (((hu j).mp hj).resolve_right q) (((hu k).mp hk).resolve_right r) e
end FR
