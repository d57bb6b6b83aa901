/-! FRAMES of what holds between calls; end, feed. -/
section FS
variable {w w' : nc_H}
theorem CH_eq (hX : CH w) (h : ∀ k, k = 25 ∨ k = 26 ∨ k = 31 ∨ k = 32 ∨ k = 33 → w'.1 12 0 k = w.1 12 0 k) (h1 : w'.1 1 0 = w.1 1 0) : CH w' := by
  unfold CH
  rw [h 25 (by omega), h 26 (by omega), h 31 (by omega), h 32 (by omega), h 33 (by omega), h1]
  exact hX
theorem PL_eq (hX : PL w) (h : w'.1 12 0 28 = w.1 12 0 28) (h1 : w'.1 8 0 = w.1 8 0) (h2 : w'.1 616 0 = w.1 616 0) (h3 : w'.1 895 0 = w.1 895 0) : PL w' := by
  unfold PL
  rw [h, h1, h2, h3]
  exact hX
theorem PT_eq (hX : PT w) (h : ∀ k, k = 29 ∨ k = 30 → w'.1 12 0 k = w.1 12 0 k) (h1 : w'.1 11 0 = w.1 11 0) : PT w' := by
  unfold PT
  rw [h 29 (by omega), h 30 (by omega), h1]
  exact hX
theorem TP_eq (hX : TP w) (h : ∀ k, k = 2 ∨ k = 15 → w'.1 12 0 k = w.1 12 0 k) (h1 : w'.1 10 0 = w.1 10 0) (h2 : w'.1 740 0 = w.1 740 0) (h3 : w'.1 869 0 = w.1 869 0) : TP w' := by
  unfold TP
  rw [h 2 (by omega), h 15 (by omega), h1, h2, h3]
  exact hX
theorem BK_eq (hX : BK w) (h : w'.1 12 0 38 = w.1 12 0 38) (h1 : w'.1 0 0 = w.1 0 0) (h2 : w'.1 905 0 = w.1 905 0) : BK w' := by
  unfold BK
  rw [h, h1, h2]
  exact hX
theorem TW_eq (hX : TW w) (h1 : w'.2 742 0 = w.2 742 0) (h2 : w'.2 878 0 = w.2 878 0) : TW w' := by
  unfold TW
  rw [h1, h2]
  exact hX
/-- rows that none of what holds reads; of 12 0 only some places are read, of 10, 740, 869 what TP says -/
def jK (t a : Nat) : Prop := (a = 0 ∧ (t = 3 ∨ t = 4 ∨ t = 10 ∨ t = 12 ∨ (100 ≤ t ∧ t ≤ 167) ∨ t = 615 ∨ (740 ≤ t ∧ t ≤ 755) ∨ t = 869 ∨ t = 875 ∨ t = 876 ∨ t = 889 ∨ t = 891 ∨ t = 902 ∨ t = 907 ∨ t = 913)) ∨ ((t = 7 ∨ (553 ≤ t ∧ t ≤ 564)) ∧ (a = 1 ∨ a = 10 ∨ a = 11)) ∨ t = 563 ∨ t = 564 ∨ ((t = 2 ∨ (236 ≤ t ∧ t ≤ 246) ∨ t = 9 ∨ (676 ≤ t ∧ t ≤ 678)) ∧ a = 1)
def rI (t a : Nat) : Prop := sD t a ∨ sL t a ∨ sS t a ∨ sM t a
def rJ (t a : Nat) : Prop := a = 0 ∧ (t = 0 ∨ t = 1 ∨ t = 8 ∨ t = 11 ∨ t = 616 ∨ t = 895 ∨ t = 905)
theorem rI_j {t a : Nat} (h : rI t a) : ¬ jK t a := by
  unfold rI sD sL sS sM at h
  unfold jK
  omega
theorem rJ_j {t a : Nat} (h : rJ t a) : ¬ jK t a := by
  unfold rJ at h
  unfold jK
  omega
theorem Inv_fr (hI : Inv w) (h1 : ∀ t a, rI t a ∨ rJ t a → w'.1 t a = w.1 t a) (h2 : w'.2 = w.2) (h3 : ∀ k, k = 24 ∨ k = 25 ∨ k = 26 ∨ k = 28 ∨ k = 29 ∨ k = 30 ∨ k = 31 ∨ k = 32 ∨ k = 33 ∨ k = 38 → w'.1 12 0 k = w.1 12 0 k) (hT : TP w') : Inv w' := by
  obtain ⟨a1, a2, a3, a4, a5, a6, a7, a8⟩ := hI
  have B := Inv_big (w' := w') ⟨a1, a2⟩ (fun t a ht => h1 t a (Or.inl ht)) (fun _ _ _ => by rw [h2]) (h3 24 (by omega))
  have j : ∀ t, t = 0 ∨ t = 1 ∨ t = 8 ∨ t = 11 ∨ t = 616 ∨ t = 895 ∨ t = 905 → w'.1 t 0 = w.1 t 0 := fun t ht => h1 t 0 (Or.inr ⟨rfl, ht⟩)
  exact ⟨B.1, B.2, CH_eq a3 (fun k hk => h3 k (by omega)) (j 1 (by omega)), PL_eq a4 (h3 28 (by omega)) (j 8 (by omega)) (j 616 (by omega)) (j 895 (by omega)), PT_eq a5 (fun k hk => h3 k (by omega)) (j 11 (by omega)), hT, BK_eq a7 (h3 38 (by omega)) (j 0 (by omega)) (j 905 (by omega)), TW_eq a8 (by rw [h2]) (by rw [h2])⟩
theorem Inv_j (hI : Inv w) (E : eqO jK w w') (h3 : ∀ k, k = 24 ∨ k = 25 ∨ k = 26 ∨ k = 28 ∨ k = 29 ∨ k = 30 ∨ k = 31 ∨ k = 32 ∨ k = 33 ∨ k = 38 → w'.1 12 0 k = w.1 12 0 k) (hT : TP w') : Inv w' :=
  Inv_fr hI (fun t a ht => E.2 t a (ht.elim rI_j rJ_j)) E.1 h3 hT
theorem eqO.mono {P Q : Nat → Nat → Prop} (h : eqO P w w') (hPQ : ∀ t a, P t a → Q t a) : eqO Q w w' := ⟨h.1, fun t a q => h.2 t a (fun p => q (hPQ t a p))⟩
theorem thr_O {x : Int32} : eqO jK w (thr w x) := eqO.rf.row (Or.inl ⟨rfl, by omega⟩)
end FS
section FE
variable {w : nc_H}
theorem op_end (hI : Inv w) (x : Int32) : Op w (nc_Call m_X11_end [cO, .inl x]) (nc_Call m_X12_end [mO, .inl x]) := by
  obtain ⟨⟨l, l1, l2, l3⟩, t2, t3⟩ := hI.2.2.2.2.2.1
  by_cases a : x < 0
  · refine rd hI ⟨0, ?_, ?_⟩
    · rw [qc_X11_end, if_pos a]
    · rw [qc_X12_end, nc_lt_v, thr_si, if_pos a]
  · by_cases b : x ≤ nI l
    · obtain ⟨k, k1, rfl⟩ : ∃ k, k ≤ l ∧ x = nI k := by
        rcases pk_ix x (n := l + 1) (by omega) with q | q | ⟨j, j1, j2⟩
        · exact absurd q a
        · exact absurd (Int32.le_trans q b) (nI_ge (by omega) (by omega))
        · exact ⟨j, by omega, j2⟩
      refine ⟨1, row w 10 0 (upd (w.1 10 0) 1 (nI k)), row (thr (row w 10 0 (upd (w.1 10 0) 1 (nI k))) 0) 12 0 (upd (upd (w.1 12 0) 0 0) 2 (nI k)), ?_, ?_, ?_⟩
      · rw [qc_X11_end, if_neg a, l2, if_pos b, nc_lt_v, si_rw]
      · rw [qc_X12_end, nc_lt_v, thr_si, if_neg a, thr_k (by decide), row_t (by decide), l3, if_pos b, nc_lt_v, si_rw, row_s, row_t (by decide)]
      · have e12 : ∀ j, j ≠ 0 → j ≠ 2 → (row (thr (row w 10 0 (upd (w.1 10 0) 1 (nI k))) 0) 12 0 (upd (upd (w.1 12 0) 0 0) 2 (nI k))).1 12 0 j = w.1 12 0 j := fun j j0 j2 => by rw [row_s, upd_n j2, upd_n j0]
        refine Inv_j hI (((eqO.rf.row (Or.inl ⟨rfl, by omega⟩)).row (Or.inl ⟨rfl, by omega⟩)).row (Or.inl ⟨rfl, by omega⟩)) (fun j hj => e12 j (by omega) (by omega)) ⟨⟨k, by omega, ?_, ?_⟩, ?_, ?_⟩
        · rw [row_t (by decide), thr_t (by decide), row_s, upd_s]
        · rw [row_s, upd_s]
        · rw [row_t (by decide), thr_t (by decide), row_t (by decide), row_t (by decide), thr_t (by decide), row_t (by decide)]
          exact t2
        · rw [e12 15 (by omega) (by omega), row_t (by decide), thr_t (by decide), row_s, upd_n (by decide)]
          exact t3
    · refine rd hI ⟨0, ?_, ?_⟩
      · rw [qc_X11_end, if_neg a, l2, if_neg b]
      · rw [qc_X12_end, nc_lt_v, thr_si, if_neg a, thr_k (by decide), l3, if_neg b]
theorem by8 {x y : Int32} (h : ∀ i, i < 8 → bt x i = bt y i) : x.toInt8 = y.toInt8 := by
  refine Int8.toBitVec_inj.mp (BitVec.eq_of_getLsbD_eq (fun i hi => ?_))
  rw [Int32.toBitVec_toInt8, Int32.toBitVec_toInt8, BitVec.getLsbD_signExtend, BitVec.getLsbD_signExtend, if_pos (by omega), if_pos (by omega)]
  exact congrArg _ (h i hi)
theorem sh8 {n : Nat} (hn : n ≤ 24) (x : Int32) : ((x.toUInt32 >>> ((nI n).toUInt32 &&& Int32.toUInt32 31)).toInt32).toInt8 = (x >>> (nI n &&& 31)).toInt8 := by
  refine by8 (fun i hi => ?_)
  rw [b_ushr n (by omega), b_sshr n (by omega) x (by omega), if_pos (by omega)]
/-- a byte of a number -/
def byt (x : Int32) (n : Nat) : Int32 := ((x >>> (nI n &&& 31)).toInt8.toInt32).toInt8.toInt32
abbrev tO : nc_V := .inr (.inr (10, 0))
def u4 (f : Nat → Int32) (l : Nat) (x : Int32) : Nat → Int32 := upd (upd (upd (upd f l (byt x 24)) (l + 1) (byt x 16)) (l + 2) (byt x 8)) (l + 3) (byt x 0)
theorem u4_c {f g : Nat → Int32} {l k : Nat} {x : Int32} (h : f k = g k) : u4 f l x k = u4 g l x k := by
  simp only [u4, upd, h]
theorem ap_step {l n : Nat} {x : Int32} (hl : w.1 10 0 1 = nI l) (h : l < 940) (hn : n ≤ 24) : ∃ w1, nc_Run m_X10_append 3 [some tO, some (.inl x), some (.inl (nI n))] [] w = nc_Run m_X10_append 3 [some tO, some (.inl x), some (.inl (nI n + Int32.ofInt (-8)))] [] w1 ∧ eqO (fun t a => a = 0 ∧ (t = 10 ∨ t = 740)) w w1 ∧ w1.1 10 0 = upd (w.1 10 0) 1 (nI (l + 1)) ∧ w1.1 740 0 = upd (w.1 740 0) l (byt x n) := by
  refine ⟨row (row w 740 0 (upd (w.1 740 0) l (byt x n))) 10 0 (upd (w.1 10 0) 1 (nI (l + 1))), ?_, (eqO.rf.row ⟨rfl, Or.inr rfl⟩).row ⟨rfl, Or.inl rfl⟩, row_s, by rw [row_t (by decide), row_s]⟩
  rw [qr_X10_append_3, if_neg (nI_pos (by omega)), hl, if_neg (show ¬ (940 : Int32) ≤ nI l from nI_ge h (by decide)), bd8 l 940 h (by decide), nc_lt_v, nc_lt_v, nc_li_v, sh8 hn]
  simp only [si_rw]
  rw [row_t (show (10 : Nat) ≠ 740 by decide), hl, nI_1]
  rfl
theorem sa_append {l : Nat} {x : Int32} (hl : w.1 10 0 1 = nI l) (h : l + 4 ≤ 940) : ∃ w1, nc_Call m_X10_append [tO, .inl x] w = some (none, w1) ∧ eqO (fun t a => a = 0 ∧ (t = 10 ∨ t = 740)) w w1 ∧ w1.1 10 0 1 = nI (l + 4) ∧ (∀ k, k ≠ 1 → w1.1 10 0 k = w.1 10 0 k) ∧ w1.1 740 0 = u4 (w.1 740 0) l x := by
  obtain ⟨w1, a1, b1, c1, d1⟩ := ap_step (w := w) (x := x) hl (by omega) (n := 24) (by omega)
  obtain ⟨w2, a2, b2, c2, d2⟩ := ap_step (w := w1) (x := x) (l := l + 1) (by rw [c1, upd_s]) (by omega) (n := 16) (by omega)
  obtain ⟨w3, a3, b3, c3, d3⟩ := ap_step (w := w2) (x := x) (l := l + 2) (by rw [c2, upd_s]) (by omega) (n := 8) (by omega)
  obtain ⟨w4, a4, b4, c4, d4⟩ := ap_step (w := w3) (x := x) (l := l + 3) (by rw [c3, upd_s]) (by omega) (n := 0) (by omega)
  refine ⟨w4, ?_, ((b1.tr b2).tr b3).tr b4, by rw [c4, upd_s], fun k hk => by rw [c4, upd_n hk, c3, upd_n hk, c2, upd_n hk, c1, upd_n hk], by rw [d4, d3, d2, d1]; rfl⟩
  rw [qc_X10_append]
  refine a1.trans ?_
  rw [show nI 24 + Int32.ofInt (-8) = nI 16 by decide +kernel, a2, show nI 16 + Int32.ofInt (-8) = nI 8 by decide +kernel, a3, show nI 8 + Int32.ofInt (-8) = nI 0 by decide +kernel, a4, qr_X10_append_3, if_pos (by decide +kernel)]
theorem fo_step {l n : Nat} {x : Int32} (hl : w.1 12 0 2 = nI l) (h : l < 940) (hn : n ≤ 24) : ∃ w1, nc_Run m_X12_four 3 [some mO, some (.inl x), some (.inl (nI n))] [] w = nc_Run m_X12_four 3 [some mO, some (.inl x), some (.inl (nI n + Int32.ofInt (-8)))] [] w1 ∧ eqO (fun t a => a = 0 ∧ (t = 12 ∨ t = 869)) w w1 ∧ w1.1 12 0 = upd (w.1 12 0) 2 (nI (l + 1)) ∧ w1.1 869 0 = upd (w.1 869 0) l (byt x n) := by
  refine ⟨row (row w 869 0 (upd (w.1 869 0) l (byt x n))) 12 0 (upd (w.1 12 0) 2 (nI (l + 1))), ?_, (eqO.rf.row ⟨rfl, Or.inr rfl⟩).row ⟨rfl, Or.inl rfl⟩, row_s, by rw [row_t (by decide), row_s]⟩
  rw [qr_X12_four_3, if_neg (nI_pos (by omega)), hl, bd8 l 940 h (by decide), nc_lt_v, nc_lt_v, nc_li_v]
  simp only [si_rw]
  rw [row_t (show (12 : Nat) ≠ 869 by decide), hl, nI_1]
  rfl
theorem sm_four {l : Nat} {x : Int32} (hl : w.1 12 0 2 = nI l) (h : l + 4 ≤ 940) : ∃ w1, nc_Call m_X12_four [mO, .inl x] w = some (none, w1) ∧ eqO (fun t a => a = 0 ∧ (t = 12 ∨ t = 869)) w w1 ∧ w1.1 12 0 2 = nI (l + 4) ∧ (∀ k, k ≠ 2 → w1.1 12 0 k = w.1 12 0 k) ∧ w1.1 869 0 = u4 (w.1 869 0) l x := by
  obtain ⟨w1, a1, b1, c1, d1⟩ := fo_step (w := w) (x := x) hl (by omega) (n := 24) (by omega)
  obtain ⟨w2, a2, b2, c2, d2⟩ := fo_step (w := w1) (x := x) (l := l + 1) (by rw [c1, upd_s]) (by omega) (n := 16) (by omega)
  obtain ⟨w3, a3, b3, c3, d3⟩ := fo_step (w := w2) (x := x) (l := l + 2) (by rw [c2, upd_s]) (by omega) (n := 8) (by omega)
  obtain ⟨w4, a4, b4, c4, d4⟩ := fo_step (w := w3) (x := x) (l := l + 3) (by rw [c3, upd_s]) (by omega) (n := 0) (by omega)
  refine ⟨w4, ?_, ((b1.tr b2).tr b3).tr b4, by rw [c4, upd_s], fun k hk => by rw [c4, upd_n hk, c3, upd_n hk, c2, upd_n hk, c1, upd_n hk], by rw [d4, d3, d2, d1]; rfl⟩
  rw [qc_X12_four]
  refine a1.trans ?_
  rw [show nI 24 + Int32.ofInt (-8) = nI 16 by decide +kernel, a2, show nI 16 + Int32.ofInt (-8) = nI 8 by decide +kernel, a3, show nI 8 + Int32.ofInt (-8) = nI 0 by decide +kernel, a4, qr_X12_four_3, if_pos (by decide +kernel)]
theorem op_feed (hI : Inv w) (a b c d e : Int32) : Op w (nc_Call m_X11_feed [cO, .inl a, .inl b, .inl c, .inl d, .inl e]) (nc_Call m_X12_feed [mO, .inl a, .inl b, .inl c, .inl d, .inl e]) := by
  obtain ⟨⟨l, l1, l2, l3⟩, t2, t3⟩ := hI.2.2.2.2.2.1
  have lt : (nI l + 20 ≤ (940 : Int32)) ↔ l + 20 ≤ 940 := by
    rw [show (20 : Int32) = nI 20 from rfl, nI_add, show (940 : Int32) = nI 940 from rfl, nI_leI (by omega) (by omega)]
  by_cases q : l + 20 ≤ 940
  · obtain ⟨w1, a1, b1, c1, d1, e1⟩ := sa_append (w := w) (x := a) l2 (by omega)
    obtain ⟨w2, a2, b2, c2, d2, e2⟩ := sa_append (w := w1) (x := b) c1 (by omega)
    obtain ⟨w3, a3, b3, c3, d3, e3⟩ := sa_append (w := w2) (x := c) c2 (by omega)
    obtain ⟨w4, a4, b4, c4, d4, e4⟩ := sa_append (w := w3) (x := d) c3 (by omega)
    obtain ⟨w5, a5, b5, c5, d5, e5⟩ := sa_append (w := w4) (x := e) c4 (by omega)
    have E := (((b1.tr b2).tr b3).tr b4).tr b5
    have f12 : w5.1 12 0 = w.1 12 0 := E.2 12 0 (by omega)
    have f869 : w5.1 869 0 = w.1 869 0 := E.2 869 0 (by omega)
    have l5 : (thr w5 0).1 12 0 2 = nI l := by rw [thr_k (by decide), f12, l3]
    obtain ⟨v1, g1, h1, i1, j1, k1⟩ := sm_four (w := thr w5 0) (x := a) l5 (by omega)
    obtain ⟨v2, g2, h2, i2, j2, k2⟩ := sm_four (w := v1) (x := b) i1 (by omega)
    obtain ⟨v3, g3, h3, i3, j3, k3⟩ := sm_four (w := v2) (x := c) i2 (by omega)
    obtain ⟨v4, g4, h4, i4, j4, k4⟩ := sm_four (w := v3) (x := d) i3 (by omega)
    obtain ⟨v5, g5, h5, i5, j5, k5⟩ := sm_four (w := v4) (x := e) i4 (by omega)
    have G := (((h1.tr h2).tr h3).tr h4).tr h5
    refine ⟨nI (l + 20), w5, v5, ?_, ?_, ?_⟩
    · rw [qc_X11_feed, l2, if_pos (lt.mpr q), a1, nc_bV_v, a2, nc_bV_v, a3, nc_bV_v, a4, nc_bV_v, a5, nc_bV_v, c5]
    · rw [qc_X12_feed, nc_lt_v, thr_si, l5, if_pos (lt.mpr q), g1, nc_bV_v, g2, nc_bV_v, g3, nc_bV_v, g4, nc_bV_v, g5, nc_bV_v, i5]
    · have m12 : ∀ k, k ≠ 0 → k ≠ 2 → v5.1 12 0 k = w.1 12 0 k := fun k k0 k2 => by rw [j5 k k2, j4 k k2, j3 k k2, j2 k k2, j1 k k2, thr_k k0, f12]
      have m10 : v5.1 10 0 = w5.1 10 0 := (G.2 10 0 (by omega)).trans (by rw [thr_t (by decide)])
      have m740 : v5.1 740 0 = w5.1 740 0 := (G.2 740 0 (by omega)).trans (by rw [thr_t (by decide)])
      refine Inv_j hI (((E.mono (fun t a h => Or.inl ⟨h.1, by omega⟩)).tr thr_O).tr (G.mono (fun t a h => Or.inl ⟨h.1, by omega⟩))) (fun k hk => m12 k (by omega) (by omega)) ⟨⟨l + 20, by omega, ?_, i5⟩, ?_, ?_⟩
      · rw [m10, c5]
      · intro k hk
        rw [m740, e5, e4, e3, e2, e1, k5, k4, k3, k2, k1, thr_t (by decide), f869]
        exact u4_c (u4_c (u4_c (u4_c (u4_c (t2 k hk)))))
      · rw [m12 15 (by decide) (by decide), m10, d5 14 (by decide), d4 14 (by decide), d3 14 (by decide), d2 14 (by decide), d1 14 (by decide)]
        exact t3
  · refine rd hI ⟨-1, ?_, ?_⟩
    · rw [qc_X11_feed, l2, if_neg (fun z => q (lt.mp z))]
    · rw [qc_X12_feed, nc_lt_v, thr_si, thr_k (by decide), l3, if_neg (fun z => q (lt.mp z))]
end FE
