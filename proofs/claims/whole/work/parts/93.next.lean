/-! The class's start and next. -/
section SN
variable {w w' : nc_H} {b : Nat → Nat} {sz lim p z m n : Nat}
def CS (w : nc_H) (b : Nat → Nat) (sz lim n : Nat) : Prop := 1 ≤ n ∧ (n ≤ 901 ∧ w.1 10 0 14 = 0) ∧ w.1 10 0 7 = nI n ∧ w.1 10 0 9 = tI (lim < sz) ∧ (∀ j, j < n → CE w j (Tk b sz lim j)) ∧ (∀ j, j + 1 < n → ¬ isE (Tk b sz lim j)) ∧ isE (Tk b sz lim (n - 1))
theorem tkn_run (hz : z < sz) (ha : alB (b z) = true) (q : ¬ (lim < sz ∧ lim ≤ z)) : (tkn b sz lim z).2.1 = z ∧ (tkn b sz lim z).2.2.1 = z + rln b sz z ∧ ¬ isE (tkn b sz lim z) := by
  by_cases c2 : (rl b z (rln b sz z)).all smB = true ∧ rln b sz z ≤ 7
  · rw [tkn_2 q hz ha c2.1 c2.2]
    exact ⟨rfl, rfl, by rintro (e | e) <;> exact absurd e (show ¬ (2 : Nat) = _ by decide)⟩
  · by_cases c4 : (rl b z (rln b sz z)).all dgB = true ∧ rln b sz z ≤ 3
    · rw [tkn_4 q hz ha c2 c4.1 c4.2]
      exact ⟨rfl, rfl, by rintro (e | e) <;> exact absurd e (show ¬ (4 : Nat) = _ by decide)⟩
    · rw [tkn_1 q hz ha c2 c4]
      exact ⟨rfl, rfl, by rintro (e | e) <;> exact absurd e (show ¬ (1 : Nat) = _ by decide)⟩
theorem al_bl {c : Nat} (h : alB c = true) : blB c = false := by
  refine Bool.eq_false_iff.mpr (fun q => ?_)
  have h1 := blB_t.mp q
  rcases alB_t.mp h with e | e
  · have := smB_t.mp e
    omega
  · have := dgB_t.mp e
    omega
theorem sig_sg : ∀ c, c < 256 → (nc_sig (((nI c).toUInt32 % 65536).toInt32) < 0 ↔ sgB c = false) := by decide +kernel
theorem tok_stop (hr : p ≤ sz) (hp : min lim sz ≤ p) : isE (tok b sz lim p) ∧ (tok b sz lim p).2.1 = min lim sz := by
  by_cases q : lim < sz
  · have := (bls_spec (b := b) hr).1
    unfold tok
    rw [tkn_6 q (by omega)]
    exact ⟨Or.inr rfl, by show lim = _; omega⟩
  · have e : p = sz := by omega
    subst e
    rw [tok_id (Nat.le_refl _) (fun z => absurd z (Nat.lt_irrefl _)), tkn_0 (by omega) (Nat.le_refl _)]
    exact ⟨Or.inl rfl, by show p = _; omega⟩
theorem CV_0 {t : Tok} (h : isE t) : CV t 0 0 0 := by
  have h' : t.1 = 0 ∨ t.1 = 6 := h
  refine ⟨?_, fun q => by omega, fun q => by omega⟩
  unfold kc
  rw [if_neg (by omega), if_neg (by omega), if_neg (by omega), if_neg (by omega)]
theorem sa_loop (hB : CB w b sz) (hT : TW w) (hl : lim ≤ 900) : ∀ q k r m u, k + q = min lim sz → cN w u → u.1 10 0 7 = nI m → m ≤ k → r ≤ sz → Tk b sz lim m = tok b sz lim (max k r) → (∀ j, j < m → CE u j (Tk b sz lim j) ∧ ¬ isE (Tk b sz lim j)) → (∀ j, j ≠ 7 → u.1 10 0 j = w.1 10 0 j) → ∃ w' n, nc_Run m_X10_start 51 [some tO, none, some (.inl (nI (min lim sz))), some (.inl (nI r)), some (.inl (nI k)), none] [] u = some (none, w') ∧ cN w w' ∧ (∀ j, j ≠ 7 → w'.1 10 0 j = w.1 10 0 j) ∧ 1 ≤ n ∧ n ≤ 901 ∧ w'.1 10 0 7 = nI n ∧ (∀ j, j < n → CE w' j (Tk b sz lim j)) ∧ (∀ j, j + 1 < n → ¬ isE (Tk b sz lim j)) ∧ isE (Tk b sz lim (n - 1)) := by
  have h9 := hB.2.1
  have ext : ∀ {u u' : nc_H} {m : Nat} {x k e : Int32} {y : Int64}, (∀ j, j < m → CE u j (Tk b sz lim j)) → (u'.1 743 0 m = x ∧ u'.1 744 0 m = k ∧ u'.1 745 0 m = e ∧ u'.2 746 0 m = y) → (∀ j, j ≠ m → u'.1 743 0 j = u.1 743 0 j ∧ u'.1 744 0 j = u.1 744 0 j ∧ u'.1 745 0 j = u.1 745 0 j ∧ u'.2 746 0 j = u.2 746 0 j) → x = nI (Tk b sz lim m).2.1 → CV (Tk b sz lim m) k e y → ∀ j, j < m + 1 → CE u' j (Tk b sz lim j) := by
    intro u u' m x k e y h1 h2 h3 hx hv j hj
    unfold CE
    by_cases q : j = m
    · subst q
      rw [h2.1, h2.2.1, h2.2.2.1, h2.2.2.2]
      exact ⟨hx, hv⟩
    · obtain ⟨g1, g2, g3, g4⟩ := h3 j q
      rw [g1, g2, g3, g4]
      exact h1 j (by omega)
  intro q
  induction q with
  | zero =>
    intro k r m u hk hc h7 hm hr ht hj h10
    have hk' : k = min lim sz := by omega
    obtain ⟨e1, e2⟩ := tok_stop (b := b) (lim := lim) (show max k r ≤ sz by omega) (by omega)
    obtain ⟨w', a1, a2, a3, a4, a5, a6⟩ := sa_add (x := nI (min lim sz)) (k := 0) (e := 0) (y := 0) h7 (show m < 901 by omega)
    refine ⟨w', m + 1, ?_, hc.tr a2, fun j hj => (a4 j hj).trans (h10 j hj), by omega, by omega, a3, ?_, fun j hj' => (hj j (by omega)).2, ?_⟩
    · rw [qr_X10_start_51, if_pos (nI_le (by omega) (by omega)), a1, nc_bV_v]
    · refine ext (fun j hj' => (hj j hj').1) a5 a6 ?_ ?_
      · rw [ht, e2]
      · rw [ht]
        exact CV_0 e1
    · rw [Nat.add_sub_cancel, ht]
      exact e1
  | succ q ih =>
    intro k r m u hk hc h7 hm hr ht hj h10
    have hBu := CB_cN hB hc
    have hTu := TW_cN hT hc
    have hb := (hB.2.2 k (by omega)).1
    have by' := sa_byte hBu (show k < sz by omega)
    have e1 : nI k < nI r ↔ k < r := nI_litlt (by omega) (by omega)
    rw [qr_X10_start_51, if_neg (nI_ge (by omega) (by omega)), by', nc_bI_v]
    by_cases c : k < r
    · rw [if_pos (e1.mpr c), if_pos (e1.mpr c), nc_li_v, nI_1]
      exact ih (k + 1) r m u (by omega) hc h7 (by omega) hr (by rw [ht, show max (k + 1) r = max k r by omega]) hj h10
    · rw [if_neg (fun z => c (e1.mp z)), sa_isLetter hb, nc_bI_v]
      rw [show max k r = k by omega] at ht
      have hn : ¬ (lim < sz ∧ lim ≤ k) := by omega
      by_cases ca : alB (b k) = true
      · obtain ⟨x, y, f, g1, g2⟩ := sa_addRun hBu hTu (show k < sz by omega) ca hn
        obtain ⟨w1, a1, a2, a3, a4, a5, a6⟩ := sa_add (x := nI k) (k := x) (e := y) (y := f) h7 (show m < 901 by omega)
        rw [a1, nc_bV_v] at g2
        obtain ⟨t1, t2, t3⟩ := tkn_run (b := b) (lim := lim) (show k < sz by omega) ca hn
        obtain ⟨r1, r2, r3, r4⟩ := rln_spec (b := b) (show k < sz by omega) ca
        rw [tok_id (by omega) (fun _ => al_bl ca)] at ht
        have nx := ih (k + 1) (k + rln b sz k) (m + 1) w1 (by omega) (hc.tr a2) a3 (by omega) r1 (by
            show tok b sz lim (Tk b sz lim m).2.2.1 = _
            rw [ht, t2, show max (k + 1) (k + rln b sz k) = k + rln b sz k by omega]) (fun j hj' => ⟨ext (fun j hj' => (hj j hj').1) a5 a6 (by rw [ht, t1]) (by rw [ht]; exact g1) j hj', by
            by_cases e : j = m
            · rw [e, ht]
              exact t3
            · exact (hj j (by omega)).2⟩) (fun j hj' => (a4 j hj').trans (h10 j hj'))
        obtain ⟨w2, n, b1, b2⟩ := nx
        refine ⟨w2, n, Eq.trans ?_ b1, b2⟩
        by_cases cs : smB (b k) = true
        · rw [cs, if_pos (by decide), g2, nc_bI_v, nc_li_v, nc_li_v, nI_1, nI_add]
        · have cd : dgB (b k) = true := (alB_t.mp ca).elim (fun x => absurd x cs) id
          rw [Bool.eq_false_iff.mpr cs, if_neg (fun z => z rfl), sa_isDigit hb, nc_bI_v, cd, if_neg (by decide), g2, nc_bI_v, nc_li_v, nc_li_v, nI_1, nI_add]
      · have ca' := Bool.eq_false_iff.mpr ca
        have cc := ca'
        unfold alB at cc
        rw [Bool.or_eq_false_iff] at cc
        rw [cc.1, if_neg (fun z => z rfl), sa_isDigit hb, nc_bI_v, cc.2, if_pos (show bI false = 0 from rfl), if_neg (fun z => c (e1.mp z))]
        by_cases cb : blB (b k) = true
        · have nx := ih (k + 1) r m u (by omega) hc h7 (by omega) hr (by rw [ht, show max (k + 1) r = k + 1 by omega]; exact tok_bl (by omega) cb) hj h10
          obtain ⟨w2, n, b1, b2⟩ := nx
          refine ⟨w2, n, Eq.trans ?_ b1, b2⟩
          rcases blB_t.mp cb with e | e
          · rw [e, if_pos (by decide), nc_li_v, nI_1]
          · rw [e, if_neg (by decide), if_pos (by decide), nc_li_v, nI_1]
        · have cb' : ¬ (b k = 32 ∨ b k = 10) := fun z => cb (blB_t.mpr z)
          rw [tok_id (by omega) (fun _ => Bool.eq_false_iff.mpr cb)] at ht
          have go : ∀ x : Int32, CV (tkn b sz lim k) x (nI (b k)) 0 → (tkn b sz lim k).2.1 = k → (tkn b sz lim k).2.2.1 = k + 1 → ¬ isE (tkn b sz lim k) → ∃ w1 w' n, nc_Call m_X10_add [tO, .inl (nI k), .inl x, .inl (nI (b k)), .inr (.inl 0)] u = some (none, w1) ∧ nc_Run m_X10_start 51 [some tO, none, some (.inl (nI (min lim sz))), some (.inl (nI r)), some (.inl (nI (k + 1))), none] [] w1 = some (none, w') ∧ cN w w' ∧ (∀ j, j ≠ 7 → w'.1 10 0 j = w.1 10 0 j) ∧ 1 ≤ n ∧ n ≤ 901 ∧ w'.1 10 0 7 = nI n ∧ (∀ j, j < n → CE w' j (Tk b sz lim j)) ∧ (∀ j, j + 1 < n → ¬ isE (Tk b sz lim j)) ∧ isE (Tk b sz lim (n - 1)) := by
            intro x g1 t1 t2 t3
            obtain ⟨w1, a1, a2, a3, a4, a5, a6⟩ := sa_add (x := nI k) (k := x) (e := nI (b k)) (y := 0) h7 (show m < 901 by omega)
            have nx := ih (k + 1) r (m + 1) w1 (by omega) (hc.tr a2) a3 (by omega) hr (by
              show tok b sz lim (Tk b sz lim m).2.2.1 = _
              rw [ht, t2, show max (k + 1) r = k + 1 by omega]) (fun j hj' => ⟨ext (fun j hj' => (hj j hj').1) a5 a6 (by rw [ht, t1]) (by rw [ht]; exact g1) j hj', by
              by_cases e : j = m
              · rw [e, ht]
                exact t3
              · exact (hj j (by omega)).2⟩) (fun j hj' => (a4 j hj').trans (h10 j hj'))
            obtain ⟨w2, n, b1, b2⟩ := nx
            exact ⟨w1, w2, n, a1, b1, b2⟩
          rw [if_neg (fun z => cb' (Or.inl ((nI_lit (by omega) 32 (by decide)).mp z))), if_neg (fun z => cb' (Or.inr ((nI_lit (by omega) 10 (by decide)).mp z)))]
          by_cases cg : sgB (b k) = true
          · obtain ⟨w1, w2, n, a1, b1, b2⟩ := go 5 (by rw [tkn_5 hn (by omega) ca' cg]; exact ⟨rfl, fun q => by have : (5 : Nat) = 2 := q; omega, fun _ => rfl⟩) (by rw [tkn_5 hn (by omega) ca' cg]) (by rw [tkn_5 hn (by omega) ca' cg]) (by rw [tkn_5 hn (by omega) ca' cg]; rintro (e | e) <;> exact absurd e (show ¬ (5 : Nat) = _ by decide))
            refine ⟨w2, n, Eq.trans ?_ b1, b2⟩
            rw [if_neg (fun z => absurd cg (Bool.eq_false_iff.mp ((sig_sg _ hb).mp z))), a1, nc_bV_v, nc_li_v, nI_1]
          · have cg' := Bool.eq_false_iff.mpr cg
            obtain ⟨w1, w2, n, a1, b1, b2⟩ := go 1 (by rw [tkn_n hn (by omega) ca' cg']; exact ⟨rfl, fun q => by have : (1 : Nat) = 2 := q; omega, fun q => by have : (1 : Nat) = 4 ∨ (1 : Nat) = 5 := q; omega⟩) (by rw [tkn_n hn (by omega) ca' cg']) (by rw [tkn_n hn (by omega) ca' cg']) (by rw [tkn_n hn (by omega) ca' cg']; rintro (e | e) <;> exact absurd e (show ¬ (1 : Nat) = _ by decide))
            refine ⟨w2, n, Eq.trans ?_ b1, b2⟩
            rw [if_pos ((sig_sg _ hb).mpr cg'), a1, nc_bV_v, nc_li_v, nI_1]
theorem sa_start (hB : CB w b sz) (hT : TW w) (hl : lim ≤ 900) : ∃ w' n, nc_Call m_X10_start [tO, .inl (nI lim)] w = some (none, w') ∧ cN w w' ∧ CS w' b sz lim n ∧ w'.1 10 0 8 = 0 ∧ w'.1 10 0 14 = 0 ∧ w'.1 10 0 15 = 0 ∧ (∀ k, 10 ≤ k → k ≤ 13 → w'.1 10 0 k = w.1 10 0 k) := by
  have h9 := hB.2.1
  have go : ∀ x : Int32, x = tI (lim < sz) → ∃ w' n, nc_Run m_X10_start 51 [some tO, none, some (.inl (nI (min lim sz))), some (.inl 0), some (.inl 0), none] [] (nc_si (nc_si (nc_si (nc_si (nc_si w 10 0 9 x) 10 0 14 0) 10 0 15 0) 10 0 7 0) 10 0 8 0) = some (none, w') ∧ cN w w' ∧ CS w' b sz lim n ∧ w'.1 10 0 8 = 0 ∧ w'.1 10 0 14 = 0 ∧ w'.1 10 0 15 = 0 ∧ (∀ k, 10 ≤ k → k ≤ 13 → w'.1 10 0 k = w.1 10 0 k) := by
    intro x hx
    have hc : cN w (nc_si (nc_si (nc_si (nc_si (nc_si w 10 0 9 x) 10 0 14 0) 10 0 15 0) 10 0 7 0) 10 0 8 0) := ((((cN.rf.si (by omega)).si (by omega)).si (by omega)).si (by omega)).si (by omega)
    have f7 : (nc_si (nc_si (nc_si (nc_si (nc_si w 10 0 9 x) 10 0 14 0) 10 0 15 0) 10 0 7 0) 10 0 8 0).1 10 0 7 = 0 := by rw [si_k (by decide), si_s]
    have f8 : (nc_si (nc_si (nc_si (nc_si (nc_si w 10 0 9 x) 10 0 14 0) 10 0 15 0) 10 0 7 0) 10 0 8 0).1 10 0 8 = 0 := by rw [si_s]
    have f9 : (nc_si (nc_si (nc_si (nc_si (nc_si w 10 0 9 x) 10 0 14 0) 10 0 15 0) 10 0 7 0) 10 0 8 0).1 10 0 9 = x := by rw [si_k (by decide), si_k (by decide), si_k (by decide), si_k (by decide), si_s]
    have f14 : (nc_si (nc_si (nc_si (nc_si (nc_si w 10 0 9 x) 10 0 14 0) 10 0 15 0) 10 0 7 0) 10 0 8 0).1 10 0 14 = 0 := by rw [si_k (by decide), si_k (by decide), si_k (by decide), si_s]
    have f15 : (nc_si (nc_si (nc_si (nc_si (nc_si w 10 0 9 x) 10 0 14 0) 10 0 15 0) 10 0 7 0) 10 0 8 0).1 10 0 15 = 0 := by rw [si_k (by decide), si_k (by decide), si_s]
    have fk : ∀ k, 10 ≤ k → k ≤ 13 → (nc_si (nc_si (nc_si (nc_si (nc_si w 10 0 9 x) 10 0 14 0) 10 0 15 0) 10 0 7 0) 10 0 8 0).1 10 0 k = w.1 10 0 k := by
      intro k k1 k2
      rw [si_k (by omega), si_k (by omega), si_k (by omega), si_k (by omega), si_k (by omega)]
    generalize nc_si (nc_si (nc_si (nc_si (nc_si w 10 0 9 x) 10 0 14 0) 10 0 15 0) 10 0 7 0) 10 0 8 0 = u at hc f7 f8 f9 f14 f15 fk
    obtain ⟨w', n, a1, a2, a3, a4, a5, a6, a7, a8, a9⟩ := sa_loop (CB_cN hB hc) (TW_cN hT hc) hl (min lim sz) 0 0 0 u (by omega) cN.rf f7 (by omega) (by omega) rfl (fun j hj => absurd hj (Nat.not_lt_zero j)) (fun j _ => rfl)
    exact ⟨w', n, a1, hc.tr a2, ⟨a4, ⟨a5, (a3 14 (by decide)).trans f14⟩, a6, (a3 9 (by decide)).trans (f9.trans hx), a7, a8, a9⟩, (a3 8 (by decide)).trans f8, (a3 14 (by decide)).trans f14, (a3 15 (by decide)).trans f15, fun k k1 k2 => (a3 k (by omega)).trans (fk k k1 k2)⟩
  have em : (if nI lim < nI sz then nI lim else nI sz) = nI (min lim sz) := by
    by_cases q : lim < sz
    · rw [if_pos ((nI_litlt (by omega) (by omega)).mpr q), show min lim sz = lim by omega]
    · rw [if_neg (fun z => q ((nI_litlt (by omega) (by omega)).mp z)), show min lim sz = sz by omega]
  rw [qc_X10_start, hB.1, em, nc_li_v]
  by_cases q : lim < sz
  · rw [if_neg (nI_ge q (by omega)), nc_lt_v, nc_lt_v, nc_lt_v, nc_lt_v, nc_lt_v]
    exact go 1 (tI_t q).symm
  · rw [if_pos (nI_le (by omega) (by omega)), nc_lt_v, nc_lt_v, nc_lt_v, nc_lt_v, nc_lt_v]
    exact go 0 (tI_f q).symm
theorem Tk_le : ∀ j, (Tk b sz lim j).2.2.1 ≤ sz
  | 0 => (tok_ok (Nat.zero_le _)).2.2.1
  | j + 1 => (tok_ok (Tk_le j)).2.2.1
theorem Tk_ok (j : Nat) : tkk sz lim (Tk b sz lim j) := by
  cases j with
  | zero => exact tok_ok (Nat.zero_le _)
  | succ j => exact tok_ok (Tk_le j)
theorem Tk_e {i : Nat} (h : isE (Tk b sz lim i)) : Tk b sz lim (i + 1) = Tk b sz lim i := by
  cases i with
  | zero => exact tok_end (Nat.zero_le _) h
  | succ j => exact tok_end (Tk_le j) h
theorem Tk_end {i : Nat} (h : isE (Tk b sz lim i)) : ∀ k, Tk b sz lim (i + k) = Tk b sz lim i
  | 0 => rfl
  | k + 1 => by
    have := Tk_end h k
    rw [show i + (k + 1) = i + k + 1 by omega, Tk_e (by rw [this]; exact h), this]
def cX (w w' : nc_H) : Prop := (∀ t a, ¬ (t = 10 ∧ a = 0) → w'.1 t a = w.1 t a ∧ w'.2 t a = w.2 t a) ∧ (∀ k, ¬ (k = 8 ∨ (10 ≤ k ∧ k ≤ 12)) → w'.1 10 0 k = w.1 10 0 k) ∧ (∀ k, k ≠ 13 → w'.2 10 0 k = w.2 10 0 k)
theorem cX.rf : cX w w := ⟨fun _ _ _ => ⟨rfl, rfl⟩, fun _ _ => rfl, fun _ _ => rfl⟩
theorem cX.tr {w'' : nc_H} (h : cX w w') (h2 : cX w' w'') : cX w w'' := ⟨fun t a q => ⟨(h2.1 t a q).1.trans (h.1 t a q).1, (h2.1 t a q).2.trans (h.1 t a q).2⟩, fun k q => (h2.2.1 k q).trans (h.2.1 k q), fun k q => (h2.2.2 k q).trans (h.2.2 k q)⟩
theorem cX.si {k : Nat} {x : Int32} (h : cX w w') (hk : k = 8 ∨ (10 ≤ k ∧ k ≤ 12)) : cX w (nc_si w' 10 0 k x) := by
  refine ⟨fun t a q => ⟨?_, (h.1 t a q).2⟩, fun j q => ?_, h.2.2⟩
  · by_cases e : t = 10
    · rw [si_a (fun e2 => q ⟨e, e2⟩)]
      exact (h.1 t a q).1
    · rw [si_t e]
      exact (h.1 t a q).1
  · rw [si_k (fun e => q (by rw [e]; exact hk))]
    exact h.2.1 j q
theorem cX.sl {x : Int64} (h : cX w w') : cX w (nc_sl w' 10 0 13 x) := by
  refine ⟨fun t a q => ⟨(h.1 t a q).1, ?_⟩, h.2.1, fun j q => ?_⟩
  · by_cases e : t = 10
    · rw [sl_a (fun e2 => q ⟨e, e2⟩)]
      exact (h.1 t a q).2
    · rw [sl_t e]
      exact (h.1 t a q).2
  · rw [sl_k q]
    exact h.2.2 j q
theorem CS_cX (h : CS w b sz lim n) (hc : cX w w') : CS w' b sz lim n := by
  obtain ⟨h1, h2, h3, h4, h5, h6⟩ := h
  refine ⟨h1, ⟨h2.1, (hc.2.1 14 (by omega)).trans h2.2⟩, (hc.2.1 7 (by omega)).trans h3, (hc.2.1 9 (by omega)).trans h4, fun j hj => ?_, h6⟩
  have := h5 j hj
  unfold CE at this ⊢
  rw [(hc.1 743 0 (by omega)).1, (hc.1 744 0 (by omega)).1, (hc.1 745 0 (by omega)).1, (hc.1 746 0 (by omega)).2]
  exact this
/-- the class's TOKEN at hand -/
def CT (w : nc_H) (t : Tok) : Prop := w.1 10 0 10 = nI t.2.1 ∧ CV t (w.1 10 0 11) (w.1 10 0 12) (w.2 10 0 13)
def CP (w : nc_H) (b : Nat → Nat) (sz lim n i : Nat) : Prop := w.1 10 0 8 = nI (min i n) ∧ (1 ≤ i → CT w (Tk b sz lim (i - 1)))
theorem sa_next {i : Nat} (hS : CS w b sz lim n) (hP : CP w b sz lim n i) : ∃ w', nc_Call m_X10_next [tO] w = some (none, w') ∧ cX w w' ∧ CP w' b sz lim n (i + 1) := by
  obtain ⟨h1, ⟨h2, -⟩, h3, h4, h5, h6, h7⟩ := hS
  obtain ⟨p1, p2⟩ := hP
  rw [qc_X10_next, p1, h3, if_neg (show ¬ nI (min i n) < (0 : Int32) from fun q => by have := (nI_litlt (n := 0) (by omega) (by omega)).mp q; omega)]
  by_cases q : i < n
  · rw [show min i n = i by omega] at p1 ⊢
    have e8 : ∀ {k : Nat} {u : nc_H} {x : Int32}, k ≠ 8 → u.1 10 0 8 = nI i → (nc_si u 10 0 k x).1 10 0 8 = nI i := by
      intro k u x hk hu
      rw [si_k (fun e => hk e.symm)]
      exact hu
    rw [if_neg (nI_ge (by omega) (by omega)), if_neg (show ¬ (901 : Int32) ≤ nI i from nI_ge (b := 901) (by omega) (by decide)), bd8 i 901 (by omega) (by decide), nc_lt_v, nc_bd_of i (e8 (by decide) p1) (by omega) (by decide), nc_lt_v, nc_bd_of i (e8 (by decide) (e8 (by decide) p1)) (by omega) (by decide), nc_lt_v, nc_bd_of i (e8 (by decide) (e8 (by decide) (e8 (by decide) p1))) (by omega) (by decide), nc_lt_v, nc_lt_v]
    refine ⟨_, rfl, ((((cX.rf.si (by omega)).si (by omega)).si (by omega)).sl).si (by omega), ?_, fun _ => ?_⟩
    · rw [si_s, sl_1, e8 (by decide) (e8 (by decide) (e8 (by decide) p1)), nI_1, show min (i + 1) n = i + 1 by omega]
    · rw [Nat.add_sub_cancel]
      have c := h5 i q
      unfold CE at c
      unfold CT
      rw [si_k (by decide), sl_1, si_k (by decide), si_k (by decide), si_s, si_k (by decide), sl_1, si_k (by decide), si_s, si_t (by decide), si_k (by decide), sl_1, si_s, si_t (by decide), si_t (by decide), si_2, sl_s, si_2, si_2, si_2]
      exact c
  · rw [show min i n = n by omega, if_pos (Int32.le_refl _)]
    refine ⟨w, rfl, cX.rf, ?_, fun _ => ?_⟩
    · rw [p1, show min i n = min (i + 1) n by omega]
    · rw [Nat.add_sub_cancel]
      have e := p2 (by omega)
      have z1 := Tk_end h7 (i - n + 1)
      have z2 := Tk_end h7 (i - n)
      rw [show n - 1 + (i - n + 1) = i by omega] at z1
      rw [show n - 1 + (i - n) = i - 1 by omega] at z2
      rw [z1, ← z2]
      exact e
end SN
