/-! KEEPING AND TAKING BACK: what was kept for undo. -/
section KP
variable {w w' : nc_H} {dn ln sn f C N h d d' u nw : Nat} {S S' : Nat → Int32} {Y : Nat → Int64}
theorem cof_c {g : Int32} (hS : ∀ k, k < 76 → S' k = S k) (hC : C ≤ 8) : cof S' C g = cof S C g := by
  unfold cof
  exact it_cong (n := C) (fun i z hi => by rw [hS (5 + i) (by omega)]) C 0 0 (by omega)
theorem wbs_c (hS : ∀ k, k < 76 → S' k = S k) (hN : N ≤ 10) : wbs S' N = wbs S N := by
  unfold wbs
  exact it_cong (n := N) (fun i z hi => by rw [hS (37 + i) (by omega)]) N 0 0 (by omega)
theorem DX_c (hX : DX w dn S Y f C N) (hC : C ≤ 8) (hN : N ≤ 10) (hS : ∀ k, k < 76 → S' k = S k) : DX w dn S' Y f C N := by
  obtain ⟨x1, x2, x3⟩ := hX
  exact ⟨fun g hg => by rw [cof_c hS hC]; exact x1 g hg, by rw [wbs_c hS hN]; exact x2, x3⟩
theorem SR_c (hX : SR w sn S N) (hS : ∀ k, 332 ≤ k → S' k = S k) : SR w sn S' N := by
  obtain ⟨m, o, dep, x1, x2, x3, x4, x5, x6, x7, x8, x9, x10⟩ := hX
  refine ⟨m, o, dep, x1, x2, x3, by rw [hS 332 (by omega)]; exact x4, x5, x6, x7, x8, x9, fun i hi => ?_⟩
  rw [hS (333 + 3 * i) (by omega), hS (334 + 3 * i) (by omega), hS (335 + 3 * i) (by omega)]
  exact x10 i hi
theorem ST_c (hX : ST w dn ln sn S Y f C N h d) (hS : ∀ k, k < 76 ∨ 332 ≤ k → S' k = S k) (hd : ∀ t, t = 2 ∨ (236 ≤ t ∧ t ≤ 246) → w'.1 t dn = w.1 t dn) (hd2 : w'.2 236 dn = w.2 236 dn) (hs : ∀ t, t = 9 ∨ (676 ≤ t ∧ t ≤ 678) → w'.1 t sn = w.1 t sn) (hl : lok S' C N d') (hL : LR w' ln S' f C N) : ST w' dn ln sn S' Y f C N h d' := by
  obtain ⟨x1, x2, x3, x4, x5, x6⟩ := hX
  have hC : C ≤ 8 := x3.1.2.2.2.2.2.1
  have hN : N ≤ 10 := x3.1.2.2.2.2.2.2.1
  exact ⟨dok_c x1 (fun k hk => hS k (Or.inl hk)), hl, DR_eq x3 (fun t ht => hd t (by omega)) (fun k hk => hS k (Or.inl hk)), DX_c (DX_eq x4 (hd 237 (by omega)) (hd 2 (by omega)) hd2) hC hN (fun k hk => hS k (Or.inl hk)), hL, SR_c (SR_eq x6 (hs 9 (by omega)) (hs 676 (by omega)) (hs 677 (by omega)) (hs 678 (by omega))) (fun k hk => hS k (Or.inr hk))⟩
/-- HR with its numbers -/
def HX (w : nc_H) (S : Nat → Int32) (f C N u nw : Nat) : Prop := u ≤ 8 ∧ nw < 8 ∧ w.1 12 0 24 = nI u ∧ w.1 5 0 2 = nI u ∧ w.1 5 0 1 = nI nw ∧ ∀ j, j < u → LR w (2 + (nw + 8 - j) % 8) (mix S (w.1 890 0) (u - 1 - j)) f C N ∧ ∃ d, lok (mix S (w.1 890 0) (u - 1 - j)) C N d
theorem HR_x : HR w S f C N ↔ ∃ u nw, HX w S f C N u nw := Iff.rfl
theorem mix_c {U : Nat → Int32} {i : Nat} (hS : ∀ k, k < 76 ∨ 332 ≤ k → S' k = S k) : mix S' U i = mix S U i := by
  funext k
  unfold mix
  by_cases q : 76 ≤ k ∧ k < 332
  · rw [if_pos q, if_pos q]
  · rw [if_neg q, if_neg q, hS k (by omega)]
theorem mix_new {U : Nat → Int32} (hu : u ≤ 8) (hS : ∀ k, k < 76 ∨ 332 ≤ k → S' k = S k) : mix S' (kpU U S u) (min u 7) = S := by
  funext k
  unfold mix kpU
  by_cases q : 76 ≤ k ∧ k < 332
  · rw [if_pos q, if_pos (by omega)]
    congr 1
    omega
  · rw [if_neg q, hS k (by omega)]
theorem mix_old {U : Nat → Int32} {i j : Nat} (hu : u ≤ 8) (hi : i < min u 7) (hj : j = if u = 8 then i + 1 else i) : mix S (kpU U S' u) i = mix S U j := by
  funext k
  unfold mix kpU
  by_cases q : 76 ≤ k ∧ k < 332
  · rw [if_pos q, if_pos q, if_neg (by omega)]
    by_cases e : u = 8
    · rw [if_pos e] at hj
      rw [if_pos (by omega)]
      congr 1
      omega
    · rw [if_neg e] at hj
      rw [if_neg (by omega), hj]
  · rw [if_neg q, if_neg q]
theorem HR_keep (hX : HX w S f C N u nw) (hL : LR w' (2 + (nw + 1) % 8) S f C N) (hl : lok S C N d) (hold : ∀ a, 2 ≤ a → a ≤ 9 → a ≠ 2 + (nw + 1) % 8 → ∀ t, t = 7 ∨ (553 ≤ t ∧ t ≤ 562) → w'.1 t a = w.1 t a) (h24 : w'.1 12 0 24 = nI (min (u + 1) 8)) (h52 : w'.1 5 0 2 = nI (min (u + 1) 8)) (h51 : w'.1 5 0 1 = nI ((nw + 1) % 8)) (h890 : w'.1 890 0 = kpU (w.1 890 0) S u) (hS : ∀ k, k < 76 ∨ 332 ≤ k → S' k = S k) : HR w' S' f C N := by
  obtain ⟨x1, x2, x3, x4, x5, x6⟩ := hX
  refine ⟨min (u + 1) 8, (nw + 1) % 8, by omega, by omega, h24, h52, h51, fun j hj => ?_⟩
  rw [h890]
  by_cases j0 : j = 0
  · subst j0
    rw [show min (u + 1) 8 - 1 - 0 = min u 7 by omega, mix_new x1 hS, show ((nw + 1) % 8 + 8 - 0) % 8 = (nw + 1) % 8 by omega]
    exact ⟨hL, d, hl⟩
  · have o := x6 (j - 1) (by omega)
    rw [mix_c hS, mix_old (j := u - 1 - (j - 1)) x1 (by omega) (by split <;> omega), show ((nw + 1) % 8 + 8 - j) % 8 = (nw + 8 - (j - 1)) % 8 by omega]
    exact ⟨LR_eq o.1 (hold _ (by omega) (by omega) (by omega)), o.2⟩
theorem HR_back (hX : HX w S f C N (u + 1) nw) (hold : ∀ a, 2 ≤ a → a ≤ 9 → ∀ t, t = 7 ∨ (553 ≤ t ∧ t ≤ 562) → w'.1 t a = w.1 t a) (h24 : w'.1 12 0 24 = nI u) (h52 : w'.1 5 0 2 = nI u) (h51 : w'.1 5 0 1 = nI ((nw + 7) % 8)) (h890 : w'.1 890 0 = w.1 890 0) (hS : ∀ k, k < 76 ∨ 332 ≤ k → S' k = S k) : HR w' S' f C N := by
  obtain ⟨x1, x2, x3, x4, x5, x6⟩ := hX
  refine ⟨u, (nw + 7) % 8, by omega, by omega, h24, h52, h51, fun j hj => ?_⟩
  have o := x6 (j + 1) (by omega)
  rw [h890, mix_c hS, show u - 1 - j = u + 1 - 1 - (j + 1) by omega, show ((nw + 7) % 8 + 8 - j) % 8 = (nw + 8 - (j + 1)) % 8 by omega]
  exact ⟨LR_eq o.1 (hold _ (by omega) (by omega)), o.2⟩
theorem cpd_eq {w0 w1 v v1 : nc_H} {a b : Nat} (hc : cpd w0 w1 a b) (h0 : ∀ t, t = 7 ∨ (553 ≤ t ∧ t ≤ 562) → w0.1 t b = v.1 t b) (h1 : ∀ t, t = 7 ∨ (553 ≤ t ∧ t ≤ 562) → v1.1 t a = w1.1 t a) : cpd v v1 a b := by
  obtain ⟨x1, x2, x3, x4, x5⟩ := hc
  refine ⟨fun k k1 k2 => ?_, fun k k1 => ?_, fun t t1 t2 k k1 => ?_, fun k k1 => ?_, fun k k1 => ?_⟩
  · rw [h1 7 (by omega), x1 k k1 k2, h0 7 (by omega)]
  · rw [h1 553 (by omega), x2 k k1, h0 553 (by omega)]
  · rw [h1 t (by omega), x3 t t1 t2 k k1, h0 t (by omega)]
  · rw [h1 561 (by omega), x4 k k1, h0 561 (by omega)]
  · rw [h1 562 (by omega), x5 k k1, h0 562 (by omega)]
/-- the class's keep -/
def kC (nw t a : Nat) : Prop := (t = 5 ∧ a = 0) ∨ lC (2 + (nw + 1) % 8) t a
theorem sc_keep (hu : u ≤ 8) (hn : nw < 8) (h1 : w.1 5 0 1 = nI nw) (h2 : w.1 5 0 2 = nI u) : ∃ w1, nc_Call m_X5_keep [.inr (.inr (5, 0)), lO 0] w = some (none, w1) ∧ eqO (kC nw) w w1 ∧ cpd w w1 (2 + (nw + 1) % 8) 0 ∧ w1.1 5 0 1 = nI ((nw + 1) % 8) ∧ w1.1 5 0 2 = nI (min (u + 1) 8) := by
  have e1 : (nI nw + 1) - (nI nw + 1) / 8 * 8 = nI ((nw + 1) % 8) := by
    rw [nI_1, show (8 : Int32) = nI 8 from rfl, pk_rem (by omega) (by omega) (by omega)]
  have e2 : (if (8 : Int32) < nI u + 1 then (8 : Int32) else nI u + 1) = nI (min (u + 1) 8) := by
    rw [nI_1]
    by_cases q : u + 1 ≤ 8
    · rw [if_neg (by rw [show (8 : Int32) = nI 8 from rfl, nI_ltI (by omega) (by omega)]; omega), Nat.min_eq_left q]
    · rw [if_pos (by rw [show (8 : Int32) = nI 8 from rfl, nI_ltI (by omega) (by omega)]; omega), Nat.min_eq_right (by omega)]
      rfl
  obtain ⟨w1, a1, a2, a3⟩ := sl_copyFrom (w := row w 5 0 (upd (w.1 5 0) 1 (nI ((nw + 1) % 8)))) (a := 2 + (nw + 1) % 8) (b := 0) (by omega)
  have a5 : w1.1 5 0 = upd (w.1 5 0) 1 (nI ((nw + 1) % 8)) := (a2.2 5 0 (fun q => by have := q.2; omega)).trans row_s
  refine ⟨row w1 5 0 (upd (w1.1 5 0) 2 (nI (min (u + 1) 8))), ?_, ?_, ?_, ?_, ?_⟩
  · rw [qc_X5_keep, nc_lt_v, h1, e1, si_rw, row_s, upd_s, bd8 _ 8 (by omega) (by decide), a1, nc_bV_v, nc_lt_v, si_rw, a5, upd_n (show (2 : Nat) ≠ 1 by decide), h2, e2]
  · refine eqO.row (eqO.tr (eqO.rf.row (Or.inl ⟨rfl, rfl⟩)) (a2.mono (fun t a q => Or.inr q))) (Or.inl ⟨rfl, rfl⟩)
  · exact cpd_eq a3 (fun t ht => by rw [row_t (by omega)]) (fun t ht => by rw [row_t (by omega)])
  · rw [row_s, upd_n (show (1 : Nat) ≠ 2 by decide), a5, upd_s]
  · rw [row_s, upd_s]
/-- rows that acts may change -/
def jB (t a : Nat) : Prop := (a = 0 ∧ (t = 4 ∨ t = 5 ∨ t = 12 ∨ t = 874 ∨ t = 889 ∨ t = 890 ∨ t = 891)) ∨ ((t = 7 ∨ (553 ≤ t ∧ t ≤ 564)) ∧ a ≤ 11)
def k12 (k : Nat) : Prop := k = 2 ∨ k = 15 ∨ k = 25 ∨ k = 26 ∨ k = 28 ∨ k = 29 ∨ k = 30 ∨ k = 31 ∨ k = 32 ∨ k = 33 ∨ k = 38
theorem Inv_act (hI : Inv w) (hN : ∃ f C N h d, NW w' f C N h d) (E : eqO jB w w') (h12 : ∀ k, k12 k → w'.1 12 0 k = w.1 12 0 k) : Inv w' := by
  obtain ⟨a1, a2, a3, a4, a5, a6, a7, a8⟩ := hI
  have e : ∀ t, t < 4 ∨ t = 6 ∨ (8 ≤ t ∧ t < 12) ∨ (564 < t ∧ t < 874) ∨ t = 895 ∨ t = 905 → w'.1 t 0 = w.1 t 0 := fun t ht => E.2 t 0 (fun q => by unfold jB at q; omega)
  have k : ∀ j, k12 j → w'.1 12 0 j = w.1 12 0 j := h12
  have n : ∀ t a, (¬ a ≤ 11 ∧ t ≠ 4) ∨ (t = 2 ∨ t = 6 ∨ t = 9 ∨ (236 ≤ t ∧ t ≤ 246) ∨ (676 ≤ t ∧ t ≤ 678) ∨ 914 ≤ t) → w'.1 t a = w.1 t a := fun t a ht => E.2 t a (fun q => by unfold jB at q; omega)
  exact ⟨hN, IM_eq a2 (fun j hj => n 6 j (by omega)) (n 914 0 (by omega)) (by rw [E.1]) (n 916 0 (by omega)) (fun t a ht ha => n t a (by omega)) (fun a _ => by rw [E.1]) (fun t a ht ha => n t a (by omega)) (fun t a ht ha => n t a (by omega)), CH_eq a3 (fun j hj => k j (by unfold k12; omega)) (e 1 (by omega)), PL_eq a4 (k 28 (by unfold k12; omega)) (e 8 (by omega)) (e 616 (by omega)) (e 895 (by omega)), PT_eq a5 (fun j hj => k j (by unfold k12; omega)) (e 11 (by omega)), TP_eq a6 (fun j hj => k j (by unfold k12; omega)) (e 10 (by omega)) (e 740 (by omega)) (e 869 (by omega)), BK_eq a7 (k 38 (by unfold k12; omega)) (e 0 (by omega)) (e 905 (by omega)), TW_eq a8 (by rw [E.1]) (by rw [E.1])⟩
end KP
