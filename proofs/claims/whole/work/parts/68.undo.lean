/-! undo; tries and back; ahead, allKnow. -/
section UN
variable {w w' v : nc_H} {f C N h d u nw : Nat} {S : Nat → Int32}
theorem row_c {t a : Nat} {g g' : Nat → Int32} (h : ∀ k, g k = g' k) : row w t a g = row w t a g' := by rw [funext h]
theorem sm_tries : nc_Call m_X12_tries [mO] w = some (none, row w 891 0 (fun k => if k < 256 then w.1 874 0 (76 + k) else w.1 891 0 k)) := by
  rw [qc_X12_tries]
  have key := it_loop (R := fun i (_ : Unit) => nc_Run m_X12_tries 2 [some mO, some (.inl (nI i))] [] (row w 891 0 (fun k => if k < i then w.1 874 0 (76 + k) else w.1 891 0 k))) (st := fun _ a => a) (I := fun _ _ => True) (n := 256) (out := fun _ => some (none, row w 891 0 (fun k => if k < 256 then w.1 874 0 (76 + k) else w.1 891 0 k))) ?_ ?_ 256 0 () (by omega) trivial
  · have e0 : row w 891 0 (fun k => if k < 0 then w.1 874 0 (76 + k) else w.1 891 0 k) = w := by
      rw [row_c (g' := w.1 891 0) (fun k => if_neg (Nat.not_lt_zero k)), row_id]
    have k2 : nc_Run m_X12_tries 2 [some mO, some (.inl (nI 0))] [] (row w 891 0 (fun k => if k < 0 then w.1 874 0 (76 + k) else w.1 891 0 k)) = _ := key
    rw [e0] at k2
    exact k2
  · intro i _ hi _
    refine ⟨?_, trivial⟩
    show nc_Run m_X12_tries 2 _ _ _ = nc_Run m_X12_tries 2 _ _ _
    rw [qr_X12_tries_2, if_neg (show ¬ (256 : Int32) ≤ nI i from nI_ge hi (by decide)), pl_bd 76 i (by omega), bd8 i 256 (by omega) (by decide), nc_lt_v, nc_li_v, nI_1, si_rw, row_s, row_r, row_t (by decide)]
    rw [row_c (w := w) (t := 891) (a := 0) (g' := fun k => if k < i + 1 then w.1 874 0 (76 + k) else w.1 891 0 k) (fun k => ?_)]
    by_cases e : k = i
    · subst e
      rw [upd_s, if_pos (by omega)]
    · rw [upd_n e]
      by_cases q : k < i
      · rw [if_pos q, if_pos (by omega)]
      · rw [if_neg q, if_neg (by omega)]
  · intro _ _
    show nc_Run m_X12_tries 2 _ _ _ = _
    rw [qr_X12_tries_2, if_pos (by decide +kernel)]
theorem sm_back (hb : ∀ k, k < 256 → w.1 891 0 k = S (76 + k)) (hS : ∀ k, k < 76 ∨ 332 ≤ k → w.1 874 0 k = S k) : nc_Call m_X12_back [mO] w = some (none, row w 874 0 S) := by
  rw [qc_X12_back]
  have key := it_loop (R := fun i (_ : Unit) => nc_Run m_X12_back 2 [some mO, some (.inl (nI i))] [] (row w 874 0 (fun k => if 76 ≤ k ∧ k < 76 + i then S k else w.1 874 0 k))) (st := fun _ a => a) (I := fun _ _ => True) (n := 256) (out := fun _ => some (none, row w 874 0 S)) ?_ ?_ 256 0 () (by omega) trivial
  · have e0 : row w 874 0 (fun k => if 76 ≤ k ∧ k < 76 + 0 then S k else w.1 874 0 k) = w := by
      rw [row_c (g' := w.1 874 0) (fun k => if_neg (by omega)), row_id]
    have k2 : nc_Run m_X12_back 2 [some mO, some (.inl (nI 0))] [] (row w 874 0 (fun k => if 76 ≤ k ∧ k < 76 + 0 then S k else w.1 874 0 k)) = _ := key
    rw [e0] at k2
    exact k2
  · intro i _ hi _
    refine ⟨?_, trivial⟩
    show nc_Run m_X12_back 2 _ _ _ = nc_Run m_X12_back 2 _ _ _
    rw [qr_X12_back_2, if_neg (show ¬ (256 : Int32) ≤ nI i from nI_ge hi (by decide)), bd8 i 256 (by omega) (by decide), pl_bd 76 i (by omega), nc_lt_v, nc_li_v, nI_1, si_rw, row_s, row_r, row_t (by decide), hb i (by omega)]
    rw [row_c (w := w) (t := 874) (a := 0) (g' := fun k => if 76 ≤ k ∧ k < 76 + (i + 1) then S k else w.1 874 0 k) (fun k => ?_)]
    by_cases e : k = 76 + i
    · subst e
      rw [upd_s, if_pos (by omega)]
    · rw [upd_n e]
      by_cases q : 76 ≤ k ∧ k < 76 + i
      · rw [if_pos q, if_pos (by omega)]
      · rw [if_neg q, if_neg (by omega)]
  · intro _ _
    show nc_Run m_X12_back 2 _ _ _ = _
    rw [qr_X12_back_2, if_pos (by decide +kernel)]
    rw [row_c (w := w) (t := 874) (a := 0) (g' := S) (fun k => ?_)]
    by_cases q : 76 ≤ k ∧ k < 76 + 256
    · rw [if_pos q]
    · rw [if_neg q, hS k (by omega)]
theorem sm_undoRun (hu : u < 8) (h24 : w.1 12 0 24 = nI u) : nc_Run m_X12_undo 26 [some mO, some (.inl (nI 0))] [] w = some (some (.inl (nI u)), row w 874 0 (mix (w.1 874 0) (w.1 890 0) u)) := by
  have key := it_loop (R := fun i (_ : Unit) => nc_Run m_X12_undo 26 [some mO, some (.inl (nI i))] [] (row w 874 0 (fun k => if 76 ≤ k ∧ k < 76 + i then w.1 890 0 (256 * u + (k - 76)) else w.1 874 0 k))) (st := fun _ a => a) (I := fun _ _ => True) (n := 256) (out := fun _ => some (some (.inl (nI u)), row w 874 0 (mix (w.1 874 0) (w.1 890 0) u))) ?_ ?_ 256 0 () (by omega) trivial
  · have e0 : row w 874 0 (fun k => if 76 ≤ k ∧ k < 76 + 0 then w.1 890 0 (256 * u + (k - 76)) else w.1 874 0 k) = w := by
      rw [row_c (g' := w.1 874 0) (fun k => if_neg (by omega)), row_id]
    have k2 : nc_Run m_X12_undo 26 [some mO, some (.inl (nI 0))] [] (row w 874 0 (fun k => if 76 ≤ k ∧ k < 76 + 0 then w.1 890 0 (256 * u + (k - 76)) else w.1 874 0 k)) = _ := key
    rw [e0] at k2
    exact k2
  · intro i _ hi _
    refine ⟨?_, trivial⟩
    show nc_Run m_X12_undo 26 _ _ _ = nc_Run m_X12_undo 26 _ _ _
    have ix : (256 * nI u) + nI i = nI (256 * u + i) := by
      rw [show (256 : Int32) = nI 256 from rfl, pk_mul, nI_add]
    rw [qr_X12_undo_26, if_neg (show ¬ (256 : Int32) ≤ nI i from nI_ge hi (by decide)), row_t (show (12 : Nat) ≠ 874 by decide), h24, nc_bd_of _ ix (by omega) (by decide), pl_bd 76 i (by omega), nc_lt_v, nc_li_v, nI_1, si_rw, row_s, row_r, row_t (by decide)]
    rw [row_c (w := w) (t := 874) (a := 0) (g' := fun k => if 76 ≤ k ∧ k < 76 + (i + 1) then w.1 890 0 (256 * u + (k - 76)) else w.1 874 0 k) (fun k => ?_)]
    by_cases e : k = 76 + i
    · subst e
      rw [upd_s, if_pos (by omega), Nat.add_sub_cancel_left]
    · rw [upd_n e]
      by_cases q : 76 ≤ k ∧ k < 76 + i
      · rw [if_pos q, if_pos (by omega)]
      · rw [if_neg q, if_neg (by omega)]
  · intro _ _
    show nc_Run m_X12_undo 26 _ _ _ = _
    rw [qr_X12_undo_26, if_pos (by decide +kernel), row_t (show (12 : Nat) ≠ 874 by decide), h24]
    rfl
theorem op_undo (hI : Inv w) : Op w (nc_Call m_X11_undo [cO]) (nc_Call m_X12_undo [mO]) := by
  have hI0 := hI
  obtain ⟨⟨f, C, N, h, d, hW⟩, -⟩ := hI
  have hW' := hW
  obtain ⟨⟨x1, x2, x3, x4, x5, x6⟩, u, nw, x7⟩ := hW'
  have hf : f ≤ 4 := x3.1.2.2.2.2.1
  have hC : C ≤ 8 := x3.1.2.2.2.2.2.1
  have hN : N ≤ 10 := x3.1.2.2.2.2.2.2.1
  obtain ⟨y1, y2, y3, y4, y5, y6⟩ := x7
  cases u with
  | zero =>
    refine rd hI0 ⟨-1, ?_, ?_⟩
    · rw [qc_X11_undo, qc_X5_takeBack, y5, bd8 nw 8 y2 (by decide), y4, if_pos (by decide), nc_bI_v]
    · rw [qc_X12_undo, nc_lt_v, thr_si, thr_k (by decide), y3, if_neg (fun q => q (by decide))]
  | succ u =>
    obtain ⟨w1, a1, a2, a3⟩ := sl_copyFrom (w := w) (a := 0) (b := 2 + nw) (by omega)
    have f5 : w1.1 5 0 = w.1 5 0 := a2.2 5 0 (fun q => by unfold lC at q; omega)
    have e1 : ((nI nw + 8) - 1) - ((nI nw + 8) - 1) / 8 * 8 = nI ((nw + 7) % 8) := by
      rw [show (8 : Int32) = nI 8 from rfl, nI_add, show nw + 8 = (nw + 7) + 1 by omega, nI_pred, pk_rem (by omega) (by omega) (by omega)]
    have o := y6 0 (by omega)
    rw [show u + 1 - 1 - 0 = u by omega, show (nw + 8 - 0) % 8 = nw by omega] at o
    let w2 : nc_H := row w1 5 0 (upd (upd (w.1 5 0) 1 (nI ((nw + 7) % 8))) 2 (nI u))
    have g2 : ∀ t a, ¬ (t = 5 ∧ a = 0) → w2.1 t a = w1.1 t a := fun t a q => row_n q
    have g1 : ∀ t a, ¬ (t = 5 ∧ a = 0) → ¬ lC 0 t a → w2.1 t a = w.1 t a := fun t a q r => (g2 t a q).trans (a2.2 t a r)
    have f12 : w2.1 12 0 = w.1 12 0 := g1 12 0 (by omega) (by unfold lC; omega)
    have f874 : w2.1 874 0 = w.1 874 0 := g1 874 0 (by omega) (by unfold lC; omega)
    have f890 : w2.1 890 0 = w.1 890 0 := g1 890 0 (by omega) (by unfold lC; omega)
    let w3 : nc_H := row (thr w2 0) 12 0 (upd ((thr w2 0).1 12 0) 24 (nI u))
    have h3 : w3.1 12 0 24 = nI u := by
      show (row _ 12 0 _).1 12 0 24 = _
      rw [row_s, upd_s]
    have s3 : w3.1 874 0 = w.1 874 0 := by
      show (row _ 12 0 _).1 874 0 = _
      rw [row_t (by decide), thr_874, f874]
    have s4 : w3.1 890 0 = w.1 890 0 := by
      show (row _ 12 0 _).1 890 0 = _
      rw [row_t (by decide), thr_t (by decide), f890]
    have r3 : ∀ t a, ¬ (t = 12 ∧ a = 0) → w3.1 t a = w2.1 t a := fun t a q => (row_n q).trans (row_n q)
    have M := sm_undoRun (w := w3) (u := u) (by omega) h3
    refine ⟨nI u, w2, row w3 874 0 (mix (w3.1 874 0) (w3.1 890 0) u), ?_, ?_, ?_⟩
    · rw [qc_X11_undo, qc_X5_takeBack, y5, bd8 nw 8 y2 (by decide), y4, if_neg (nI_ne0 (by omega) (by omega)), a1, nc_bV_v, nc_lt_v, nc_lt_v]
      simp only [si_rw, row_s, row_r, f5, y5, e1, upd_n (show (2 : Nat) ≠ 1 by decide), y4, nI_pred, upd_s, nc_bI_v]
      rfl
    · rw [qc_X12_undo, nc_lt_v, thr_si, thr_k (by decide), f12, y3, if_pos (nI_ne0 (by omega) (by omega)), nc_lt_v, si_rw, nI_pred]
      exact M
    · have E : eqO jB w (row w3 874 0 (mix (w3.1 874 0) (w3.1 890 0) u)) := by
        refine ⟨a2.1, fun t a q => ?_⟩
        unfold jB at q
        rw [row_n (by omega), r3 t a (by omega), g1 t a (by omega) (by unfold lC; omega)]
      have sE : (row w3 874 0 (mix (w3.1 874 0) (w3.1 890 0) u)).1 874 0 = mix (w.1 874 0) (w.1 890 0) u := by rw [row_s, s3, s4]
      have hS : ∀ k, k < 76 ∨ 332 ≤ k → mix (w.1 874 0) (w.1 890 0) u k = w.1 874 0 k := fun k hk => by
        unfold mix
        rw [if_neg (by omega)]
      obtain ⟨dd, hdd⟩ := o.2
      have l4 : ∀ t a, (t = 7 ∨ (553 ≤ t ∧ t ≤ 562)) → (row w3 874 0 (mix (w3.1 874 0) (w3.1 890 0) u)).1 t a = w1.1 t a := fun t a ht => by rw [row_n (by omega), r3 t a (by omega), g2 t a (by omega)]
      refine Inv_act hI0 ⟨f, C, N, h, dd, NW_act hW E (fun k hk => by rw [sE]; exact hS k hk) (by rw [sE]; exact hdd) ?_ ?_⟩ E (fun k hk => ?_)
      · rw [sE]
        exact LR_eq (LR_cp hf hC hN a3 o.1) (fun t ht => l4 t 0 ht)
      · rw [sE]
        refine HR_back (w := w) (S := w.1 874 0) (u := u) (nw := nw) ⟨y1, y2, y3, y4, y5, y6⟩ (fun a h2 h9 t ht => ?_) ?_ ?_ ?_ ?_ hS
        · rw [l4 t a ht, a2.2 t a (by unfold lC; omega)]
        · rw [row_t (by decide), h3]
        · rw [row_t (by decide), r3 5 0 (by omega)]
          show (row _ 5 0 _).1 5 0 2 = _
          rw [row_s, upd_s]
        · rw [row_t (by decide), r3 5 0 (by omega)]
          show (row _ 5 0 _).1 5 0 1 = _
          rw [row_s, upd_n (by decide), upd_s]
        · rw [row_t (by decide), s4]
      · unfold k12 at hk
        rw [row_t (by decide)]
        show (row _ 12 0 _).1 12 0 k = _
        rw [row_s, upd_n (by omega), thr_k (by omega), f12]
/-- rows that tries may change -/
def jT (t a : Nat) : Prop := (a = 0 ∧ (t = 4 ∨ t = 12 ∨ t = 874 ∨ t = 889 ∨ t = 891)) ∨ ((t = 7 ∨ (553 ≤ t ∧ t ≤ 564)) ∧ (a = 1 ∨ a = 10 ∨ a = 11))
theorem Inv_try (hI : Inv w) (E : eqO jT w w') (h874 : w'.1 874 0 = w.1 874 0) (h12 : ∀ k, k12 k ∨ k = 24 → w'.1 12 0 k = w.1 12 0 k) : Inv w' := by
  have e : ∀ t, t = 10 ∨ t = 740 ∨ t = 869 → w'.1 t 0 = w.1 t 0 := fun t ht => E.2 t 0 (fun q => by unfold jT at q; omega)
  refine Inv_j hI ⟨E.1, fun t a q => ?_⟩ (fun k hk => h12 k (by unfold k12; omega)) (TP_eq hI.2.2.2.2.2.1 (fun k hk => h12 k (by unfold k12; omega)) (e 10 (by omega)) (e 740 (by omega)) (e 869 (by omega)))
  by_cases z : t = 874 ∧ a = 0
  · rw [z.1, z.2]
    exact h874
  · exact E.2 t a (fun r => q (by unfold jT at r; unfold jK; omega))
theorem op_ahead (hI : Inv w) (x : Int32) : Op w (nc_Call m_X11_ahead [cO, .inl x]) (nc_Call m_X12_ahead [mO, .inl x]) := by
  have hI0 := hI
  obtain ⟨⟨f, C, N, h, d, hW⟩, -⟩ := hI
  obtain ⟨⟨x1, x2, x3, x4, x5, x6⟩, x7⟩ := hW
  have hf : f ≤ 4 := x3.1.2.2.2.2.1
  have hC : C ≤ 8 := x3.1.2.2.2.2.2.1
  have hN : N ≤ 10 := x3.1.2.2.2.2.2.2.1
  rcases lit_1n (x := x) (n := 60) (by decide) with ⟨n, n1, n2, rfl⟩ | b
  · have g1 : ¬ nI n < 1 := by rw [show (1 : Int32) = nI 1 from rfl, nI_ltI (by omega) (by omega)]; omega
    have g2 : nI n ≤ 60 := nI_le n2 (by decide)
    obtain ⟨w1, a1, a2, a3⟩ := sl_copyFrom (w := w) (a := 1) (b := 0) (by omega)
    have D1 : DR w1 0 (w.1 874 0) f C N h := DR_eq x3 (fun t ht => a2.2 t 0 (by unfold lC; omega)) (fun _ _ => rfl)
    obtain ⟨w2, b1, b2, b3⟩ := sl_goDays (a := 1) (n := n) D1 (LR_cp hf hC hN a3 x5) x1 x2 (by omega)
    have q0 : ∀ t, (t = 7 ∨ (553 ≤ t ∧ t ≤ 562)) → w2.1 t 0 = w.1 t 0 := fun t ht => (b2.2 t 0 (by unfold lP; omega)).trans (a2.2 t 0 (by unfold lC; omega))
    have L0 : LR w2 0 (w.1 874 0) f C N := LR_eq x5 q0
    have s2 : (thr w2 0).1 874 0 = w.1 874 0 := by rw [thr_874, b2.2 874 0 (by unfold lP; omega), a2.2 874 0 (by unfold lC; omega)]
    let v1 : nc_H := row (thr w2 0) 891 0 (fun k => if k < 256 then (thr w2 0).1 874 0 (76 + k) else (thr w2 0).1 891 0 k)
    have s3 : v1.1 874 0 = w.1 874 0 := by
      show (row _ 891 0 _).1 874 0 = _
      rw [row_t (by decide), s2]
    obtain ⟨v2, c1, c2, c3⟩ := sm_goesOn (w := v1) (n := n) s3 x1 x2 (by omega)
    have hb : ∀ k, k < 256 → v2.1 891 0 k = w.1 874 0 (76 + k) := fun k hk => by
      rw [c2.2 891 0 (by unfold mD; omega)]
      show (row _ 891 0 _).1 891 0 k = _
      rw [row_s, if_pos hk, s2]
    have hS : ∀ k, k < 76 ∨ 332 ≤ k → v2.1 874 0 k = w.1 874 0 k := fun k hk => by
      rw [c3]
      rcases hk with hk | hk
      · exact dayN_lo x1 hk _
      · exact dayN_hi x1 hk _
    refine ⟨(dayN (w.1 874 0) d f C N h (min n (400 - d)) 95 + dayN (w.1 874 0) d f C N h (min n (400 - d)) 96 + dayN (w.1 874 0) d f C N h (min n (400 - d)) 97 + dayN (w.1 874 0) d f C N h (min n (400 - d)) 98) - (w.1 874 0 95 + w.1 874 0 96 + w.1 874 0 97 + w.1 874 0 98), w2, row v2 874 0 (w.1 874 0), ?_, ?_, ?_⟩
    · rw [qc_X11_ahead, if_neg g1, if_pos g2, a1, nc_bV_v, b1, nc_bI_v, sl_allPails b3.2, nc_bI_v, sl_allPails L0.2, nc_bI_v]
    · rw [qc_X12_ahead, nc_lt_v, thr_si, sm_isIn, nc_bI_v, tI_t ⟨Int32.not_lt.mp g1, g2⟩, if_pos (by decide), sm_tries, nc_bV_v, sm_allPails, nc_bI_v, c1, nc_bI_v, sm_allPails, nc_bI_v, nc_li_v, sm_back hb hS, nc_bV_v, c3, row_t (by decide), s2]
    · refine Inv_try hI0 ⟨?_, fun t a q => ?_⟩ row_s (fun k hk => ?_)
      · exact c2.1.trans (b2.1.trans a2.1)
      · unfold jT at q
        rw [row_n (by omega), c2.2 t a (by unfold mD; omega)]
        show (row _ 891 0 _).1 t a = _
        rw [row_n (by omega), row_n (by omega), b2.2 t a (by unfold lP; omega), a2.2 t a (by unfold lC; omega)]
      · rw [row_t (by decide), c2.2 12 0 (by unfold mD; omega)]
        show (row _ 891 0 _).1 12 0 k = _
        rw [row_t (by decide), thr_k (by unfold k12 at hk; omega), b2.2 12 0 (by unfold lP; omega), a2.2 12 0 (by unfold lC; omega)]
  · refine rd hI0 ⟨-1, ?_, ?_⟩
    · rw [qc_X11_ahead]
      by_cases b1 : x < 1
      · rw [if_pos b1]
      · rw [if_neg b1, if_neg (show ¬ x ≤ (60 : Int32) from b.elim (fun q => absurd q b1) id)]
    · rw [qc_X12_ahead, nc_lt_v, thr_si, sm_isIn, nc_bI_v, tI_f (fun q => b.elim (fun z => absurd q.1 (Int32.not_le.mpr z)) (fun z => z q.2)), if_neg (fun q => q rfl)]
end UN
