/-! A sentence read, of both. -/
section SJ
variable {w w' v v' : nc_H} {b : Nat → Nat} {sz f C N m o : Nat}
/-- what the class's reading of a sentence leaves, from its start -/
def cU (w w' : nc_H) : Prop := ∀ t a, ¬ (a = 0 ∧ (t = 10 ∨ (743 ≤ t ∧ t ≤ 746))) → ¬ (a = 1 ∧ (t = 9 ∨ (676 ≤ t ∧ t ≤ 678))) → w'.1 t a = w.1 t a ∧ w'.2 t a = w.2 t a
def mU (v v' : nc_H) : Prop := (∀ t a, ¬ (a = 0 ∧ (t = 12 ∨ t = 876 ∨ t = 907)) → v'.1 t a = v.1 t a ∧ v'.2 t a = v.2 t a) ∧ (∀ k, ¬ (k = 0 ∨ (2 ≤ k ∧ k ≤ 5) ∨ (11 ≤ k ∧ k ≤ 16) ∨ k = 18 ∨ (40 ≤ k ∧ k ≤ 44)) → v'.1 12 0 k = v.1 12 0 k) ∧ (∀ k, k ≠ 17 → v'.2 12 0 k = v.2 12 0 k) ∧ v'.1 12 0 2 = 0
theorem js_read (hB : CB w b sz) (hT : TW w) (hz : v.1 12 0 2 = nI sz) (hb : ∀ k, k < 940 → v.1 869 0 k &&& 255 = nI (b k)) (hV : TW v) (hN : NS w v f C N) : ∃ r w' v', nc_Call m_X9_read [sO, tO, .inr (.inr (2, 0))] w = some (some (.inl r), w') ∧ cU w w' ∧ mU v v' ∧ ((r = 0 ∧ FQ w' v' ∧ nc_Call m_X12_sentence [mO] v = some (some (.inl (-1 - v'.1 12 0 16)), v')) ∨ (r = 1 ∧ nc_Call m_X12_sentence [mO] v = nc_Run m_X12_sentence 48 [some mO, some (.inl 0), none] [] v' ∧ FQ0 w' v' ∧ ∃ m o, 1 ≤ o ∧ EX w' v' (fun _ => 0) 0 1 m o 1 N)) := by
  have hm := qc_X12_sentence 0 v
  rw [nc_lt_v, qc_X12_taken] at hm
  simp only [nc_lt_v, nc_bV_v, si_rw, row_s, row_r] at hm
  generalize hF : upd (upd (upd (upd (upd (upd (upd (upd (upd (upd (upd (v.1 12 0) 0 0) 3 (upd (v.1 12 0) 0 0 2)) 2 0) 4 0) 5 200) 15 0) 40 0) 41 0) 42 0) 43 1) 44 0 = F at hm
  have hF' : ∀ k, ¬ (k = 0 ∨ (2 ≤ k ∧ k ≤ 5) ∨ (11 ≤ k ∧ k ≤ 16) ∨ k = 18 ∨ (40 ≤ k ∧ k ≤ 44)) → F k = v.1 12 0 k := fun k q => by
    rw [← hF, upd_n (by omega), upd_n (by omega), upd_n (by omega), upd_n (by omega), upd_n (by omega), upd_n (by omega), upd_n (by omega), upd_n (by omega), upd_n (by omega), upd_n (by omega), upd_n (by omega)]
  have F2 : F 2 = 0 := by rw [← hF]; rfl
  have F3 : F 3 = nI sz := by rw [← hF]; exact hz
  have F4 : F 4 = nI 0 := by rw [← hF]; rfl
  have F5 : F 5 = nI 200 := by rw [← hF]; rfl
  have F15 : F 15 = 0 := by rw [← hF]; rfl
  have F40 : F 40 = nI 0 := by rw [← hF]; rfl
  have F41 : F 41 = nI 0 := by rw [← hF]; rfl
  have F42 : F 42 = nI 0 := by rw [← hF]; rfl
  have F43 : F 43 = nI 1 := by rw [← hF]; rfl
  have F44 : F 44 = 0 := by rw [← hF]; rfl
  generalize hw1 : nc_si (nc_si w 9 1 3 0) 9 1 4 0 = w1
  have u1 : ∀ t a, ¬ (t = 9 ∧ a = 1) → w1.1 t a = w.1 t a := fun t a q => by
    rw [← hw1, si_rw, row_n q, si_rw, row_n q]
  have u2 : w1.2 = w.2 := by rw [← hw1]; rfl
  have B2 : CB w1 b sz := by
    refine ⟨?_, hB.2.1, fun k hk => ⟨(hB.2.2 k hk).1, ?_⟩⟩
    · rw [u1 10 0 (by omega)]
      exact hB.1
    · rw [u1 740 0 (by omega)]
      exact (hB.2.2 k hk).2
  have T2 : TW w1 := TW_z hT (by rw [u2]) (by rw [u2])
  obtain ⟨w3, n, c1, c2, c3, c4, c5, c6, c7⟩ := sa_start (lim := 200) B2 T2 (by decide)
  have MS1 : MS (row v 12 0 F) b sz 200 := ⟨by rw [row_s]; exact F3, by rw [row_s]; exact F5, hB.2.1, ⟨by decide, by rw [row_s]; exact F15⟩, fun k hk => ⟨(hB.2.2 k hk).1, by rw [row_t (by decide)]; exact hb k hk⟩⟩
  obtain ⟨v2, d1, d2, d3⟩ := sm_next (p := 0) MS1 (by rw [row_s]; exact F4) (Nat.zero_le _)
  have TV1 : TW (row v 12 0 F) := TW_z hV rfl rfl
  rw [d1, nc_bV_v] at hm
  have J : Jt w3 v2 b sz 200 n 0 := ⟨c3, ⟨by rw [c4, Nat.zero_min]; rfl, fun q => absurd q (by decide)⟩, MS_mN MS1 d2, d3, TW_cN T2 c2, TW_mN TV1 d2⟩
  obtain ⟨w4, a1, a2, a3⟩ := Jt_a J
  have N2 : NS w4 v2 f C N := NS_z hN (by rw [(a2.1 236 0 (by omega)).2, c2.2.1 236 0 (by omega), u2]) (d2.1 877 0 (by omega)).2 (by rw [(d2.1 874 0 (by omega)).1, row_t (by decide)])
  have e9 : w4.1 9 1 = w1.1 9 1 := by rw [(a2.1 9 1 (by omega)).1, c2.1 9 1 (by omega)]
  have E0 : EX w4 v2 (fun _ => 0) 0 1 0 0 0 N := by
    refine ⟨⟨?_, ?_⟩, ⟨?_, ?_, ?_, ?_⟩, ⟨by decide, by decide, by decide⟩, ⟨fun _ => 0, rfl, rfl, fun _ _ => Nat.zero_le 20, fun i hi => absurd hi (Nat.not_lt_zero i)⟩, fun j hj => absurd hj (Nat.not_lt_zero j)⟩
    · rw [e9, ← hw1, si_k (by decide), si_s]; rfl
    · rw [e9, ← hw1, si_s]; rfl
    · rw [d2.2.1 40 (by omega), row_s]; exact F40
    · rw [d2.2.1 41 (by omega), row_s]; exact F41
    · rw [d2.2.1 42 (by omega), row_s]; exact F42
    · rw [d2.2.1 43 (by omega), row_s]; exact F43
  have P : Pre w4 v2 b sz 200 n f C N 0 (fun _ => 0) 0 1 0 0 0 := ⟨a3, E0, by rw [d2.2.1 44 (by omega), row_s]; exact F44, N2⟩
  obtain ⟨r, w5, g1, g2, g3⟩ := sp_C1 _ _ _ _ _ _ _ _ (by decide) (Or.inl rfl) P
  have g1' : nc_Call m_X9_readCond_1 [sO, tO, .inr (.inr (2, 0)), .inl 1] w4 = some (some (.inl r), w5) := g1
  have hc := qc_X9_read 1 0 0 w
  rw [qc_X9_clear, nc_lt_v, nc_lt_v, nc_bV_v, hw1, show (200 : Int32) = nI 200 from rfl, c1, nc_bV_v, a1, nc_bV_v, g1', nc_bI_v] at hc
  have cc : cU w w4 := by
    intro t a q q2
    refine ⟨?_, ?_⟩
    · rw [(a2.1 t a (by omega)).1, c2.1 t a (by omega), u1 t a (by omega)]
    · rw [(a2.1 t a (by omega)).2, c2.2.1 t a (by omega), u2]
  have ccS : ∀ {w6 : nc_H}, cS w4 w6 → cU w w6 := fun {w6} h t a q q2 => ⟨(h t a (by omega) q2).1.trans (cc t a q q2).1, (h t a (by omega) q2).2.trans (cc t a q q2).2⟩
  have mm : ∀ {v6 : nc_H}, mS v2 v6 → mU v v6 := fun {v6} h => by
    obtain ⟨g1, g2, g3⟩ := d2.mF.mS.tr h
    refine ⟨fun t a q => ⟨(g1 t a q).1.trans (row_n (by omega)), (g1 t a q).2⟩, fun k q => ?_, g3, ?_⟩
    · rw [g2 k (by omega), row_s]
      exact hF' k q
    · rw [g2 2 (by omega), row_s]
      exact F2
  rcases g3 with ⟨rfl, v6, fq, s6, Mv⟩ | ⟨rfl, v6, i, m, o, Mv, s6, ⟨p1, p2, u, v7, p3, p4, p5, p6, p7, p8, p9, p10⟩, h13, h12, o1, -⟩
  · rw [if_pos rfl] at hc
    exact ⟨0, w5, v6, hc, ccS g2, mm s6, Or.inl ⟨rfl, fq, hm.trans Mv⟩⟩
  · rw [if_neg (by decide)] at hc
    have hk := Tk_ok (b := b) (sz := sz) (lim := 200) i
    have h42 := p7.2.1.2.2.1
    have S5 := p6.1
    have be := be_els (v := v6) (u := u) (v2 := v7) (Nt_c.trans p3) (Jn_c.trans p5) p4.2.2.2.2.2.1 p6.2.2.2.2.2.1 hk h13 h12
    rw [if_pos (Or.inr (show v7.1 12 0 42 = 0 from h42))] at be
    obtain ⟨w8, v8, f1, f2, f3, f4, f5⟩ := jt_fail (w := w5) (v := v7) (t := Tk b sz 200 i) 1 p6.2.2.1.1 p6.2.2.2.2.2.1.2.1
    rw [f2, nc_bI_v, nc_z_0] at be
    have k11 : w5.1 10 0 11 = kc (Tk b sz 200 i) := p6.2.2.1.2.1
    have m11 : v6.1 12 0 11 = km (Tk b sz 200 i) := p2.2.2.2.2.2.1.1
    by_cases q0 : (Tk b sz 200 i).1 = 0
    · -- the end
      have he : isE (Tk b sz 200 i) := Or.inl q0
      have nl : ¬ 200 < sz := fun z => by have := (Tk_e6 he).mpr z; omega
      have kz : w5.1 10 0 11 = 0 := by rw [k11]; exact (kc_0 hk).mpr he
      rw [qc_X10_mustEnd, if_neg (fun z => z kz), S5.2.2.2.1, tI_f nl, if_pos rfl, nc_bI_v, if_neg (by decide)] at hc
      have mz : v6.1 12 0 11 = 0 := by rw [m11]; exact (km_i hk).2.2.2.mpr q0
      have z44 : ¬ v6.1 12 0 44 = 0 := by rw [p1]; decide
      have M7 : Mo v6 = nc_Run m_X12_sentence 48 [some mO, some (.inl 0), none] [] v7 := by
        show nc_Run m_X12_sentence 48 [some mO, some (.inl 1), none] [] v6 = _
        rw [qr_X12_sentence_48, if_neg (by decide), if_neg z44, if_neg (fun y => y mz), Nt_c, p3, nc_bV_v, Jn_c, p5, nc_bV_v, h42, if_pos (by decide)]
      exact ⟨1, w5, v7, hc, ccS g2, mm ((s6.tr p8).tr p9), Or.inr ⟨rfl, (hm.trans Mv).trans M7, ⟨S5.2.1.2, p6.2.2.2.2.1.2.2.2.1.2⟩, m, o, by omega, p7⟩⟩
    · -- more
      have mz : v6.1 12 0 11 ≠ 0 := by rw [m11]; exact fun z => q0 ((km_i hk).2.2.2.mp z)
      have M8 := Mo_b p1 mz be
      rw [if_neg (fun z => z rfl)] at M8
      have hc2 : nc_Call m_X9_read [sO, tO, .inr (.inr (2, 0))] w = some (some (.inl 0), w8) := by
        rw [qc_X10_mustEnd] at hc
        by_cases q6 : (Tk b sz 200 i).1 = 6
        · have he : isE (Tk b sz 200 i) := Or.inr q6
          have kz : w5.1 10 0 11 = 0 := by rw [k11]; exact (kc_0 hk).mpr he
          rw [if_neg (fun z => z kz), S5.2.2.2.1, tI_t ((Tk_e6 he).mp q6), if_neg (by decide), f1, nc_bI_v, if_pos rfl, nc_bI_v, if_pos rfl] at hc
          exact hc
        · have kz : w5.1 10 0 11 ≠ 0 := by rw [k11]; exact fun z => ((kc_0 hk).mp z).elim q0 q6
          rw [if_pos kz, f1, nc_bI_v, if_pos rfl, nc_bI_v, if_pos rfl] at hc
          exact hc
      exact ⟨0, w8, v8, hc2, ccS (g2.tr f3.cS), mm (((s6.tr p8).tr p9).tr f4.mS), Or.inl ⟨rfl, f5, (hm.trans Mv).trans M8⟩⟩
/-- the steps into the state -/
theorem sm_146 (h40 : v.1 12 0 40 = nI m) (hm : m < 45) : nc_Run m_X12_sentence 146 [some mO, none, some (.inl (nI 0))] [] v = some (some (.inl (v.1 12 0 41)), row v 874 0 (fun j => if 333 ≤ j ∧ j < 333 + 3 * m then v.1 876 0 (j - 333) else v.1 874 0 j)) := by
  have key := it_loop (R := fun i (_ : Unit) => nc_Run m_X12_sentence 146 [some mO, none, some (.inl (nI i))] [] (row v 874 0 (fun j => if 333 ≤ j ∧ j < 333 + i then v.1 876 0 (j - 333) else v.1 874 0 j))) (st := fun _ a => a) (I := fun _ _ => True) (n := 3 * m) (out := fun _ => some (some (.inl (v.1 12 0 41)), row v 874 0 (fun j => if 333 ≤ j ∧ j < 333 + 3 * m then v.1 876 0 (j - 333) else v.1 874 0 j))) ?_ ?_ (3 * m) 0 () (by omega) trivial
  · have e0 : row v 874 0 (fun j => if 333 ≤ j ∧ j < 333 + 0 then v.1 876 0 (j - 333) else v.1 874 0 j) = v := by
      rw [row_c (g' := v.1 874 0) (fun j => if_neg (by omega)), row_id]
    have k2 : nc_Run m_X12_sentence 146 [some mO, none, some (.inl (nI 0))] [] (row v 874 0 (fun j => if 333 ≤ j ∧ j < 333 + 0 then v.1 876 0 (j - 333) else v.1 874 0 j)) = _ := key
    rw [e0] at k2
    exact k2
  · intro i _ hi _
    refine ⟨?_, trivial⟩
    show nc_Run m_X12_sentence 146 _ _ _ = nc_Run m_X12_sentence 146 _ _ _
    have ix : (333 : Int32) + nI i = nI (333 + i) := by
      rw [show (333 : Int32) = nI 333 from rfl, nI_add]
    rw [qr_X12_sentence_146, row_t (show 12 ≠ 874 by decide), h40, x3m, if_neg (nI_ge hi (by omega)), bd8 i 135 (by omega) (by decide), nc_bd_of _ ix (by omega) (by decide), nc_lt_v, nc_li_v, nI_1, si_rw, row_s, row_r, row_t (by decide)]
    rw [row_c (w := v) (t := 874) (a := 0) (g' := fun j => if 333 ≤ j ∧ j < 333 + (i + 1) then v.1 876 0 (j - 333) else v.1 874 0 j) (fun j => ?_)]
    by_cases e : j = 333 + i
    · subst e
      rw [upd_s, if_pos (by omega), Nat.add_sub_cancel_left]
    · rw [upd_n e]
      by_cases q : 333 ≤ j ∧ j < 333 + i
      · rw [if_pos q, if_pos (by omega)]
      · rw [if_neg q, if_neg (by omega)]
  · intro _ _
    show nc_Run m_X12_sentence 146 _ _ _ = _
    rw [qr_X12_sentence_146, row_t (show 12 ≠ 874 by decide), h40, x3m, if_pos (Int32.le_refl _)]
theorem sm_fin (h40 : v.1 12 0 40 = nI m) (hm : m < 45) : ∃ V, nc_Run m_X12_sentence 48 [some mO, some (.inl 0), none] [] v = some (some (.inl (v.1 12 0 41)), V) ∧ eqO (fun t a => t = 874 ∧ a = 0) v V ∧ (∀ k, k < 332 → V.1 874 0 k = v.1 874 0 k) ∧ V.1 874 0 332 = nI m ∧ (∀ k, k < 3 * m → V.1 874 0 (333 + k) = v.1 876 0 k) := by
  have e := sm_146 (v := nc_si v 874 0 332 (nI m)) (by rw [si_t (by decide)]; exact h40) hm
  have e' : nc_Run m_X12_sentence 146 [some mO, none, some (.inl 0)] [] (nc_si v 874 0 332 (nI m)) = _ := e
  refine ⟨row (nc_si v 874 0 332 (nI m)) 874 0 (fun j => if 333 ≤ j ∧ j < 333 + 3 * m then (nc_si v 874 0 332 (nI m)).1 876 0 (j - 333) else (nc_si v 874 0 332 (nI m)).1 874 0 j), ?_, (eqO.rf.si ⟨rfl, rfl⟩).row ⟨rfl, rfl⟩, fun k hk => ?_, ?_, fun k hk => ?_⟩
  · rw [qr_X12_sentence_48, if_pos rfl, nc_lt_v, h40, e', si_t (show 12 ≠ 874 by decide)]
  · rw [row_s, if_neg (by omega), si_k (by omega)]
  · rw [row_s, if_neg (by omega), si_s]
  · rw [row_s, if_pos (by omega), si_t (by decide), Nat.add_sub_cancel_left]
end SJ
