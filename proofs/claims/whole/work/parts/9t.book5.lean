/-! book: the call. -/
section BP
variable {w w' v v' : nc_H} {f C N h d : Nat} {x : Int32}
theorem Inv_bk (hI : Inv w) (hN : ∃ f C N h d, NW v f C N h d) (hM : IM v) (e : ∀ t, t = 1 ∨ t = 8 ∨ t = 11 ∨ t = 616 ∨ t = 895 → v.1 t 0 = w.1 t 0) (k : ∀ j, j = 25 ∨ j = 26 ∨ j = 28 ∨ j = 29 ∨ j = 30 ∨ j = 31 ∨ j = 32 ∨ j = 33 → v.1 12 0 j = w.1 12 0 j) (e2 : ∀ t, t = 742 ∨ t = 878 → v.2 t 0 = w.2 t 0) (hT : TP v) (hB : BK v) : Inv v := by
  obtain ⟨a1, a2, a3, a4, a5, a6, a7, a8⟩ := hI
  exact ⟨hN, hM, CH_eq a3 (fun j hj => k j (by omega)) (e 1 (by omega)), PL_eq a4 (k 28 (by omega)) (e 8 (by omega)) (e 616 (by omega)) (e 895 (by omega)), PT_eq a5 (fun j hj => k j (by omega)) (e 11 (by omega)), hT, hB, TW_eq a8 (e2 742 (by omega)) (e2 878 (by omega))⟩
theorem sc_book (hx : rng x 2) {r0 : Int32} {w0 : nc_H} (h0 : nc_Call m_X0_read [.inr (.inr (0, 0)), tO, .inr (.inr (2, 0))] w = some (some (.inl r0), w0)) : nc_Call m_X11_book [cO, .inl x] w = (if r0 ≠ 0 then
      nc_bV (nc_Call m_X7_copyFrom [lO 1, lO 0] (nc_si w0 10 0 1 0)) fun w4 =>
      nc_bI (nc_Call m_X0_judge [.inr (.inr (0, 0)), lO 1] w4) fun r6 w5 =>
      if x ≠ 1 then
        some (some (.inl r6), w5)
      else
        if (w5.1 0 0 6) ≤ 0 then
          some (some (.inl r6), w5)
        else
          nc_bV (nc_Call m_X5_keep [.inr (.inr (5, 0)), lO 0] w5) fun w7 =>
          nc_bV (nc_Call m_X7_copyFrom [lO 0, lO 1] w7) fun w8 =>
          some (some (.inl r6), w8)
    else
      some (some (.inl ((-2) - ((nc_si w0 10 0 1 0).1 10 0 15))), nc_si w0 10 0 1 0)) := by
  rcases rng_2 hx with rfl | rfl
  · rw [qc_X11_book, if_pos rfl, h0, nc_bI_v, nc_lt_v]
  · rw [qc_X11_book, if_neg (by decide), if_pos rfl, h0, nc_bI_v, nc_lt_v]
theorem sm_242 {u : Nat} {r : Int32} (hu : u < 8) (h24 : v.1 12 0 24 = nI (u + 1)) : nc_Run m_X12_book 242 [some mO, some (.inl 1), some (.inl r), some (.inl (nI 0))] [] v = some (some (.inl r), row v 890 0 (fun j => if 256 * u ≤ j ∧ j < 256 * u + 256 then v.1 891 0 (j - 256 * u) else v.1 890 0 j)) := by
  have key := it_loop (R := fun i (_ : Unit) => nc_Run m_X12_book 242 [some mO, some (.inl 1), some (.inl r), some (.inl (nI i))] [] (row v 890 0 (fun j => if 256 * u ≤ j ∧ j < 256 * u + i then v.1 891 0 (j - 256 * u) else v.1 890 0 j))) (st := fun _ a => a) (I := fun _ _ => True) (n := 256) (out := fun _ => some (some (.inl r), row v 890 0 (fun j => if 256 * u ≤ j ∧ j < 256 * u + 256 then v.1 891 0 (j - 256 * u) else v.1 890 0 j))) ?_ ?_ 256 0 () (by omega) trivial
  · have e0 : row v 890 0 (fun j => if 256 * u ≤ j ∧ j < 256 * u + 0 then v.1 891 0 (j - 256 * u) else v.1 890 0 j) = v := by
      rw [row_c (g' := v.1 890 0) (fun j => if_neg (by omega)), row_id]
    have k2 : nc_Run m_X12_book 242 [some mO, some (.inl 1), some (.inl r), some (.inl (nI 0))] [] (row v 890 0 (fun j => if 256 * u ≤ j ∧ j < 256 * u + 0 then v.1 891 0 (j - 256 * u) else v.1 890 0 j)) = _ := key
    rw [e0] at k2
    exact k2
  · intro i _ hi _
    refine ⟨?_, trivial⟩
    show nc_Run m_X12_book 242 _ _ _ = nc_Run m_X12_book 242 _ _ _
    have ix : (256 * (nI (u + 1) - 1)) + nI i = nI (256 * u + i) := by
      rw [nI_pred, show (256 : Int32) = nI 256 from rfl, pk_mul, nI_add]
    rw [qr_X12_book_242, if_neg (show ¬ (256 : Int32) ≤ nI i from nI_ge hi (by decide)), bd8 i 256 (by omega) (by decide), row_t (show 12 ≠ 890 by decide), h24, nc_bd_of _ ix (by omega) (by decide), nc_lt_v, nc_li_v, nI_1, si_rw, row_s, row_r, row_t (by decide)]
    rw [row_c (w := v) (t := 890) (a := 0) (g' := fun j => if 256 * u ≤ j ∧ j < 256 * u + (i + 1) then v.1 891 0 (j - 256 * u) else v.1 890 0 j) (fun j => ?_)]
    by_cases e : j = 256 * u + i
    · subst e
      rw [upd_s, if_pos (by omega), Nat.add_sub_cancel_left]
    · rw [upd_n e]
      by_cases q : 256 * u ≤ j ∧ j < 256 * u + i
      · rw [if_pos q, if_pos (by omega)]
      · rw [if_neg q, if_neg (by omega)]
  · intro _ _
    show nc_Run m_X12_book 242 _ _ _ = _
    rw [qr_X12_book_242, if_pos (by decide +kernel), if_pos (by decide)]
/-- the model's heap as a judged book ends -/
abbrev bkV (v : nc_H) : nc_H := nc_si (nc_si (nc_si v 905 0 2 (v.1 874 0 76)) 905 0 3 (v.1 874 0 77)) 12 0 38 1
theorem bkE_eq {r : Int32} : bkE x r v = (if x ≠ 1 then
      if x ≠ 0 then
        some (some (.inl r), bkV v)
      else
        nc_bV (nc_Call m_X12_back [mO] (bkV v)) fun w4 =>
        some (some (.inl r), w4)
    else
      if (v.1 905 0 1) ≤ 0 then
        if x ≠ 0 then
          some (some (.inl r), bkV v)
        else
          nc_bV (nc_Call m_X12_back [mO] (bkV v)) fun w5 =>
          some (some (.inl r), w5)
      else
        nc_bV (nc_Call m_X12_keep [mO] (bkV v)) fun w6 =>
        nc_Run m_X12_book 242 [some mO, some (.inl x), some (.inl r), some (.inl 0)] [] w6) := by
  have e1 : (nc_si v 905 0 2 (v.1 874 0 76)).1 874 0 77 = v.1 874 0 77 := by rw [si_t (by decide)]
  have e2 : (bkV v).1 905 0 1 = v.1 905 0 1 := by rw [si_t (by decide), si_k (by decide), si_k (by decide)]
  unfold bkE
  rw [nc_lt_v, nc_lt_v, nc_lt_v, e1, e2]
theorem bkV_n {t a : Nat} (q : ¬ (a = 0 ∧ (t = 12 ∨ t = 905))) : (bkV v).1 t a = v.1 t a := by
  show (nc_si (nc_si (nc_si v 905 0 2 (v.1 874 0 76)) 905 0 3 (v.1 874 0 77)) 12 0 38 1).1 t a = _
  rw [si_rw, row_n (by omega), si_rw, row_n (by omega), si_rw, row_n (by omega)]
theorem bkV_k {k : Nat} (q : k ≠ 38) : (bkV v).1 12 0 k = v.1 12 0 k := by
  show (nc_si (nc_si (nc_si v 905 0 2 (v.1 874 0 76)) 905 0 3 (v.1 874 0 77)) 12 0 38 1).1 12 0 k = _
  rw [si_k q, si_t (by decide), si_t (by decide)]
theorem bkV_38 : (bkV v).1 12 0 38 = 1 := si_s
theorem bkV_9 : (bkV v).1 905 0 = upd (upd (v.1 905 0) 2 (v.1 874 0 76)) 3 (v.1 874 0 77) := by
  show (nc_si (nc_si (nc_si v 905 0 2 (v.1 874 0 76)) 905 0 3 (v.1 874 0 77)) 12 0 38 1).1 905 0 = _
  rw [si_t (by decide), si_row, si_row]
/-- what holds behind a book that was judged -/
theorem bk_end {w4 v4 V : nc_H} {S' : Nat → Int32} {i d' : Nat} (hI : Inv w) (hW : NW w f C N h d) (hc : cG w w4 S' f C N i) (h5 : w4.1 0 0 5 = v4.1 905 0 0) (e905 : v4.1 905 0 1 = nI i) (V9 : V.1 905 0 = upd (upd (v4.1 905 0) 2 (S' 76)) 3 (S' 77)) (V38 : V.1 12 0 38 = 1)
    (q1 : ∀ t a, ¬ (a = 0 ∧ (t = 0 ∨ t = 5 ∨ t = 7 ∨ t = 10 ∨ (743 ≤ t ∧ t ≤ 746) ∨ (100 ≤ t ∧ t ≤ 102) ∨ (553 ≤ t ∧ t ≤ 562) ∨ t = 12 ∨ t = 874 ∨ t = 876 ∨ t = 889 ∨ t = 890 ∨ t = 891 ∨ t = 905)) → ¬ lP 1 t a → ¬ ((t = 7 ∨ (553 ≤ t ∧ t ≤ 562)) ∧ 2 ≤ a ∧ a ≤ 9) → V.1 t a = w.1 t a)
    (q0 : ∀ t, t = 0 ∨ t = 10 → V.1 t 0 = w4.1 t 0)
    (q2 : ∀ t a, ¬ (a = 0 ∧ (t = 0 ∨ t = 10 ∨ (743 ≤ t ∧ t ≤ 746) ∨ (100 ≤ t ∧ t ≤ 102) ∨ t = 12 ∨ t = 876)) → V.2 t a = w.2 t a) (q12 : ∀ k, ¬ (k = 0 ∨ (2 ≤ k ∧ k ≤ 5) ∨ (11 ≤ k ∧ k ≤ 16) ∨ k = 18 ∨ k = 24 ∨ k = 36 ∨ k = 38) → V.1 12 0 k = w.1 12 0 k) (V2 : V.1 12 0 2 = 0) (V15 : V.1 12 0 15 = 0) (hS : ∀ k, k < 76 ∨ 332 ≤ k → V.1 874 0 k = w.1 874 0 k) (hl : lok (V.1 874 0) C N d') (hL : LR V 0 (V.1 874 0) f C N) (hH : HR V (V.1 874 0) f C N) : Inv V := by
  obtain ⟨c1, c2, c3, c4, c5, c6, c7, c8, c9⟩ := hc
  obtain ⟨⟨l, l1, l2, l3⟩, t2, t3⟩ := hI.2.2.2.2.2.1
  have X : ST V 0 0 0 (V.1 874 0) (w.2 877 0) f C N h d' := ST_c hW.1 hS (fun t ht => q1 t 0 (by omega) (by unfold lP; omega) (by omega)) (q2 236 0 (by omega)) (fun t ht => q1 t 0 (by omega) (by unfold lP; omega) (by omega)) hl hL
  refine Inv_bk hI ⟨f, C, N, h, d', ?_, hH⟩ (IM_eq hI.2.1 (fun k hk => q1 6 k (by omega) (by unfold lP; omega) (by omega)) (q1 914 0 (by omega) (by unfold lP; omega) (by omega)) (q2 915 0 (by omega)) (q1 916 0 (by omega) (by unfold lP; omega) (by omega)) (fun t a ht ha => q1 t a (by omega) (by unfold lP; omega) (by omega)) (fun a ha => q2 236 a (by omega)) (fun t a ht ha => q1 t a (by omega) (by unfold lP; omega) (by omega)) (fun t a ht ha => q1 t a (by omega) (by unfold lP; omega) (by omega))) (fun t ht => q1 t 0 (by omega) (by unfold lP; omega) (by omega)) (fun j hj => q12 j (by omega)) (fun t ht => q2 t 0 (by omega)) ⟨⟨0, by omega, ?_, ?_⟩, fun k hk => ?_, ?_⟩ (Or.inr ⟨?_, V38, ?_, ?_, ?_, ?_⟩)
  · rw [q2 877 0 (by omega)]
    exact X
  · rw [q0 10 (by omega), c3]
    rfl
  · rw [V2]
    rfl
  · rw [q1 740 0 (by omega) (by unfold lP; omega) (by omega), q1 869 0 (by omega) (by unfold lP; omega) (by omega)]
    exact t2 k hk
  · rw [q0 10 (by omega), c4, V15]
  · rw [q0 0 (by omega), c5]
  · rw [q0 0 (by omega), h5, V9, upd_n (by decide), upd_n (by decide)]
  · rw [q0 0 (by omega), c6, V9, upd_n (by decide), upd_n (by decide), e905]
  · rw [q0 0 (by omega), c7, V9, upd_n (by decide), upd_s]
  · rw [q0 0 (by omega), c8, V9, upd_s]
end BP
