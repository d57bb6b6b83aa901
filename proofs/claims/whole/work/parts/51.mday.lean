/-! THE MODEL'S DAY. -/
/-- the dairy's numbers are in their bounds -/
def dok (S : Nat → Int32) (f C N h : Nat) : Prop := shp S f C N h ∧ kOK S N ∧ kpOK S C ∧ (∀ c, c < C → ∃ g, g < f ∧ S (5 + c) = nI g) ∧
  (∀ k, k < h → ∃ x y e, x < f ∧ y < f ∧ x ≠ y ∧ 1 ≤ e ∧ e ≤ 9 ∧ S (58 + k) = nI x ∧ S (64 + k) = nI y ∧ S (70 + k) = nI e) ∧
  (∀ c, c < C → ∃ v, v ≤ 40 ∧ S (13 + c) = nI v) ∧ (∀ n, n < N → ∃ v, v ≤ 20 ∧ S (47 + n) = nI v) ∧ (∃ l, l < 2 ^ N ∧ S 57 = nI l) ∧ (∃ e, 1 ≤ e ∧ e ≤ 5 ∧ S 4 = nI e)
/-- what milk depends on -/
def mfr (S S' : Nat → Int32) : Prop := ∀ k, k < 79 ∨ (100 ≤ k ∧ k < 212) → S' k = S k
section MC
variable {S S' : Nat → Int32} {c n C N : Nat}
theorem mv0_c (h : mfr S S') (hn : n < 10) : mv0 S' n = mv0 S n := by
  unfold mv0
  rw [h (47 + n) (by omega), h 57 (by omega), h 78 (by omega)]
theorem hos_c (h : mfr S S') (hC : C ≤ 8) (hc : c < 8) : hos S' C c n = hos S C c n := by
  unfold hos
  refine it_cong (n := C) (fun o x hlt => ?_) C 0 0 (by omega)
  have e : ho S' c n o ↔ ho S c n o := by
    show (o ≠ c ∧ S' (5 + o) = S' (5 + c) ∧ bq (S' (100 + o)) (nI n)) ↔ _
    rw [h (5 + o) (by omega), h (5 + c) (by omega), h (100 + o) (by omega)]
  rw [tI_c e]
theorem mv_c (h : mfr S S') (hC : C ≤ 8) (hc : c < 8) (hn : n < 10) : mv S' C c n = mv S C c n := by
  unfold mv
  rw [h (37 + n) (by omega), hos_c h hC hc, mv0_c h hn]
theorem mst_c (h : mfr S S') (hC : C ≤ 8) (hc : c < 8) (hn : n < 10) (x y z : Int32) : mst S' C c x y n z = mst S C c x y n z := by
  unfold mst mwe
  rw [h (37 + n) (by omega), mv_c h hC hc hn, h (116 + c) (by omega), h 57 (by omega), h (47 + n) (by omega)]
theorem kns_c2 (h : mfr S S') (hN : N ≤ 10) (hc : c < 8) : kns S' N c = kns S N c := kns_c hN (fun n hn => kn_c (h 76 (by omega)) (h _ (by omega)) (h _ (by omega)))
theorem mwi_c (h : mfr S S') (hC : C ≤ 8) (hN : N ≤ 10) (hc : c < 8) (x : Int32) : mwi S' C N c x = mwi S C N c x := by
  have hw : war S' N x ↔ war S N x := ⟨fun ⟨n, q1, q2, q3⟩ => ⟨n, q1, q2, by rw [← h (37 + n) (by omega)]; exact q3⟩, fun ⟨n, q1, q2, q3⟩ => ⟨n, q1, q2, by rw [h (37 + n) (by omega)]; exact q3⟩⟩
  have hcu : cu S' c ↔ cu S c := by
    show (¬ S' (124 + c) ≤ 0 ∧ ¬ (6 : Int32) < S' 76 - (S' (124 + c) - 1)) ↔ _
    rw [h (124 + c) (by omega), h 76 (by omega)]
  unfold mwi mby
  rw [h 77 (by omega), h (100 + c) (by omega), h (108 + c) (by omega), h (13 + c) (by omega), kns_c2 h hN hc]
  simp only [hw, hcu]
  rw [it_cong (n := N) (fun i z hi => mst_c h hC hc (by omega) _ _ z) N 0 _ (by omega)]
theorem mof_c (h : mfr S S') (hC : C ≤ 8) (hN : N ≤ 10) (x : Int32) : mof S' C N x = mof S C N x := by
  unfold mof
  refine it_cong (n := C) (fun i z hi => ?_) C 0 0 (by omega)
  rw [h (5 + i) (by omega), mwi_c h hC hN (by omega)]
end MC
/-- what the cows of a farm know -/
def fkn (S : Nat → Int32) (C N : Nat) (x : Int32) : Int32 := it (fun c (a : Int32) => a ||| (if S (5 + c) = x then kns S N c else 0)) 0 C 0
/-- s behind comesTo -/
def comS (S : Nat → Int32) (A : Int32) (C N : Nat) (y : Int32) : Nat → Int32 := fun k => if 132 ≤ k ∧ k < 132 + 10 * C ∧ (k - 132) % 10 < N ∧ S (5 + (k - 132) / 10) = y ∧ bq A (nI ((k - 132) % 10)) then S 76 + 1 else S k
section CT
variable {w : nc_H} {f C N h : Nat} {S : Nat → Int32}
theorem sm_comesTo (hs : shp (w.1 874 0) f C N h) (x y : Int32) : nc_Call m_X12_comesTo [mO, .inl x, .inl y] w = some (none, row w 874 0 (comS (w.1 874 0) (it (fun c (a : Int32) => a ||| (if w.1 874 0 (5 + c) = x then w.1 889 0 c else 0)) 0 C 0) C N y)) := by
  have hC : C ≤ 8 := hs.2.2.2.2.2.1
  have hN : N ≤ 10 := hs.2.2.2.2.2.2.1
  rw [qc_X12_comesTo]
  generalize hS : w.1 874 0 = S at hs
  have h1 : S 1 = nI C := hs.2.1
  have h2 : S 2 = nI N := hs.2.2.1
  have key := it_loop (R := fun i (a : Int32) => nc_Run m_X12_comesTo 5 [some mO, some (.inl x), some (.inl y), some (.inl a), some (.inl (nI i)), none] [] w) (st := fun c (a : Int32) => a ||| (if S (5 + c) = x then w.1 889 0 c else 0)) (I := fun _ _ => True) (n := C) (out := fun a => nc_Run m_X12_comesTo 52 [some mO, none, some (.inl y), some (.inl a), some (.inl (nI 0)), none] [] w) ?_ ?_ C 0 0 (by omega) trivial
  · refine Eq.trans key ?_
    generalize it (fun c (a : Int32) => a ||| (if S (5 + c) = x then w.1 889 0 c else 0)) 0 C 0 = A
    refine lp (R := fun i (v : nc_H) => nc_Run m_X12_comesTo 52 [some mO, none, some (.inl y), some (.inl A), some (.inl (nI i)), none] [] v) (I := fun i v => ∃ g : Nat → Int32, v = row w 874 0 g ∧ ∀ k, g k = comS S A i N y k) (n := C) (Q := fun r => r = some (none, row w 874 0 (comS S A C N y))) ?_ ?_ C 0 w (by omega) ?_
    · rintro i v hi ⟨g, rfl, hg⟩
      right
      have hgi : ¬ C ≤ i := by omega
      have g1 : g 1 = nI C := by rw [hg]; unfold comS; rw [if_neg (by omega)]; exact h1
      have gf : g (5 + i) = S (5 + i) := by rw [hg]; unfold comS; rw [if_neg (by omega)]
      by_cases e : S (5 + i) = y
      · have hq := lp (R := fun j (v : nc_H) => nc_Run m_X12_comesTo 82 [some mO, none, some (.inl y), some (.inl A), some (.inl (nI i)), some (.inl (nI j))] [] v) (I := fun j v => ∃ g : Nat → Int32, v = row w 874 0 g ∧ ∀ k, g k = if 132 ≤ k ∧ k < 132 + 10 * i + j ∧ (k - 132) % 10 < N ∧ S (5 + (k - 132) / 10) = y ∧ bq A (nI ((k - 132) % 10)) then S 76 + 1 else S k) (n := N) (Q := fun r => ∃ g : Nat → Int32, r = nc_Run m_X12_comesTo 52 [some mO, none, some (.inl y), some (.inl A), some (.inl (nI (i + 1))), none] [] (row w 874 0 g) ∧ ∀ k, g k = comS S A (i + 1) N y k) ?_ ?_ N 0 (row w 874 0 g) (by omega) ⟨g, rfl, hg⟩
        · obtain ⟨g', q1, q2⟩ := hq
          refine ⟨_, ?_, g', rfl, q2⟩
          show nc_Run m_X12_comesTo 52 _ _ _ = _
          rw [qr_X12_comesTo_52]
          simp (disch := omega) only [↓nc_lt_v, ↓nc_li_v, ↓nc_bI_v, ↓nc_bV_v, ↓nc_bL_v, ↓nc_ll_v, ↓bd8, ↓reduceIte, ↓nc_z_tI, ↓nc_z_0, ↓nc_z_1, nI_leI, nI_ltI, nI_1, tI_ne, tI_eq0, ne_eq, not_true_eq_false, not_false_eq_true, Decidable.not_not, ↓pl_5, ↓pl_13, ↓pl_21, ↓pl_29, ↓pl_37, ↓pl_47, ↓pl_58, ↓pl_64, ↓pl_70, ↓pl_79, ↓pl_87, ↓pl_95, ↓pl_100, ↓pl_108, ↓pl_116, ↓pl_124, row_s, g1, hgi, gf, e]
          exact q1
        · rintro j v hj ⟨g, rfl, hg⟩
          right
          have hgj : ¬ N ≤ j := by omega
          have g2 : g 2 = nI N := by rw [hg, if_neg (by omega)]; exact h2
          have g76 : g 76 = S 76 := by rw [hg, if_neg (by omega)]
          by_cases b : bq A (nI j)
          · refine ⟨row w 874 0 (upd g (132 + 10 * i + j) (S 76 + 1)), ?_, _, rfl, fun k => ?_⟩
            · show nc_Run m_X12_comesTo 82 _ _ _ = nc_Run m_X12_comesTo 82 _ _ _
              rw [qr_X12_comesTo_82]
              simp (disch := omega) only [↓sm_bitOf, ↓pl_bd2, ↓nc_lt_v, ↓nc_li_v, ↓nc_bI_v, ↓nc_bV_v, ↓nc_bL_v, ↓nc_ll_v, ↓bd8, ↓reduceIte, ↓nc_z_tI, ↓nc_z_0, ↓nc_z_1, nI_leI, nI_ltI, nI_1, tI_ne, tI_eq0, ne_eq, not_true_eq_false, not_false_eq_true, Decidable.not_not, row_s, g2, hgj, eq_true b, si_rw, row_r, g76]
            · unfold upd
              by_cases ek : k = 132 + 10 * i + j
              · have e1 : (k - 132) / 10 = i := by omega
                have e2 : (k - 132) % 10 = j := by omega
                rw [if_pos ek, e1, e2, if_pos (show 132 ≤ k ∧ k < 132 + 10 * i + (j + 1) ∧ j < N ∧ S (5 + i) = y ∧ bq A (nI j) from ⟨by omega, by omega, hj, e, b⟩)]
              · rw [if_neg ek, hg]
                have : k < 132 + 10 * i + (j + 1) ↔ k < 132 + 10 * i + j := by omega
                simp only [this]
          · refine ⟨row w 874 0 g, ?_, _, rfl, fun k => ?_⟩
            · show nc_Run m_X12_comesTo 82 _ _ _ = nc_Run m_X12_comesTo 82 _ _ _
              rw [qr_X12_comesTo_82]
              simp (disch := omega) only [↓sm_bitOf, ↓pl_bd2, ↓nc_lt_v, ↓nc_li_v, ↓nc_bI_v, ↓nc_bV_v, ↓nc_bL_v, ↓nc_ll_v, ↓bd8, ↓reduceIte, ↓nc_z_tI, ↓nc_z_0, ↓nc_z_1, nI_leI, nI_ltI, nI_1, tI_ne, tI_eq0, ne_eq, not_true_eq_false, not_false_eq_true, Decidable.not_not, row_s, g2, hgj, eq_false b]
            · rw [hg]
              by_cases ek : k = 132 + 10 * i + j
              · have e2 : (k - 132) % 10 = j := by omega
                rw [e2, if_neg (fun q => b q.2.2.2.2), if_neg (fun q => b q.2.2.2.2)]
              · have : k < 132 + 10 * i + (j + 1) ↔ k < 132 + 10 * i + j := by omega
                simp only [this]
        · rintro v ⟨g, rfl, hg⟩
          have g2 : g 2 = nI N := by rw [hg, if_neg (by omega)]; exact h2
          refine ⟨g, ?_, fun k => ?_⟩
          · show nc_Run m_X12_comesTo 82 _ _ _ = _
            rw [qr_X12_comesTo_82]
            simp (disch := omega) only [↓nc_lt_v, ↓nc_li_v, ↓nc_bI_v, ↓nc_bV_v, ↓nc_bL_v, ↓nc_ll_v, ↓bd8, ↓reduceIte, ↓nc_z_tI, ↓nc_z_0, ↓nc_z_1, nI_leI, nI_ltI, nI_1, tI_ne, tI_eq0, ne_eq, not_true_eq_false, not_false_eq_true, Decidable.not_not, row_s, g2, Nat.le_refl]
          · rw [hg]
            unfold comS
            have : (k < 132 + 10 * i + N ∧ (k - 132) % 10 < N ∧ S (5 + (k - 132) / 10) = y ∧ bq A (nI ((k - 132) % 10))) ↔ (k < 132 + 10 * (i + 1) ∧ (k - 132) % 10 < N ∧ S (5 + (k - 132) / 10) = y ∧ bq A (nI ((k - 132) % 10))) := ⟨fun ⟨q1, q2, q3⟩ => ⟨by omega, q2, q3⟩, fun ⟨q1, q2, q3⟩ => ⟨by omega, q2, q3⟩⟩
            simp only [this]
      · refine ⟨row w 874 0 g, ?_, g, rfl, fun k => ?_⟩
        · show nc_Run m_X12_comesTo 52 _ _ _ = nc_Run m_X12_comesTo 52 _ _ _
          rw [qr_X12_comesTo_52]
          simp (disch := omega) only [↓nc_lt_v, ↓nc_li_v, ↓nc_bI_v, ↓nc_bV_v, ↓nc_bL_v, ↓nc_ll_v, ↓bd8, ↓reduceIte, ↓nc_z_tI, ↓nc_z_0, ↓nc_z_1, nI_leI, nI_ltI, nI_1, tI_ne, tI_eq0, ne_eq, not_true_eq_false, not_false_eq_true, Decidable.not_not, ↓pl_5, ↓pl_13, ↓pl_21, ↓pl_29, ↓pl_37, ↓pl_47, ↓pl_58, ↓pl_64, ↓pl_70, ↓pl_79, ↓pl_87, ↓pl_95, ↓pl_100, ↓pl_108, ↓pl_116, ↓pl_124, row_s, g1, hgi, gf, eq_false e]
        · rw [hg]
          unfold comS
          by_cases q : 132 ≤ k ∧ k < 132 + 10 * i
          · have : k < 132 + 10 * (i + 1) := by omega
            simp only [q, this, true_and]
          · rw [if_neg (fun z => q ⟨z.1, z.2.1⟩)]
            by_cases q2 : 132 ≤ k ∧ k < 132 + 10 * (i + 1)
            · have e1 : (k - 132) / 10 = i := by omega
              rw [e1, if_neg (fun z => e z.2.2.2.1)]
            · rw [if_neg (fun z => q2 ⟨z.1, z.2.1⟩)]
    · rintro v ⟨g, rfl, hg⟩
      have g1 : g 1 = nI C := by rw [hg]; unfold comS; rw [if_neg (by omega)]; exact h1
      show nc_Run m_X12_comesTo 52 _ _ _ = _
      rw [qr_X12_comesTo_52]
      simp (disch := omega) only [↓nc_lt_v, ↓nc_li_v, ↓nc_bI_v, ↓nc_bV_v, ↓nc_bL_v, ↓nc_ll_v, ↓bd8, ↓reduceIte, ↓nc_z_tI, ↓nc_z_0, ↓nc_z_1, nI_leI, nI_ltI, nI_1, tI_ne, tI_eq0, ne_eq, not_true_eq_false, not_false_eq_true, Decidable.not_not, row_s, g1, Nat.le_refl]
      rw [show g = comS S A C N y from funext hg]
    · exact ⟨w.1 874 0, row_id.symm, fun k => by unfold comS; rw [hS, if_neg (by omega)]⟩
  · intro i a hi _
    refine ⟨?_, trivial⟩
    have hgi : ¬ C ≤ i := by omega
    show nc_Run m_X12_comesTo 5 _ _ _ = nc_Run m_X12_comesTo 5 _ _ _
    rw [qr_X12_comesTo_5]
    by_cases e : S (5 + i) = x
    · simp (disch := omega) only [↓nc_lt_v, ↓nc_li_v, ↓nc_bI_v, ↓nc_bV_v, ↓nc_bL_v, ↓nc_ll_v, ↓bd8, ↓reduceIte, ↓nc_z_tI, ↓nc_z_0, ↓nc_z_1, nI_leI, nI_ltI, nI_1, tI_ne, tI_eq0, ne_eq, not_true_eq_false, not_false_eq_true, Decidable.not_not, ↓pl_5, ↓pl_13, ↓pl_21, ↓pl_29, ↓pl_37, ↓pl_47, ↓pl_58, ↓pl_64, ↓pl_70, ↓pl_79, ↓pl_87, ↓pl_95, ↓pl_100, ↓pl_108, ↓pl_116, ↓pl_124, hS, h1, hgi, e]
    · simp (disch := omega) only [↓nc_lt_v, ↓nc_li_v, ↓nc_bI_v, ↓nc_bV_v, ↓nc_bL_v, ↓nc_ll_v, ↓bd8, ↓reduceIte, ↓nc_z_tI, ↓nc_z_0, ↓nc_z_1, nI_leI, nI_ltI, nI_1, tI_ne, tI_eq0, ne_eq, not_true_eq_false, not_false_eq_true, Decidable.not_not, ↓pl_5, ↓pl_13, ↓pl_21, ↓pl_29, ↓pl_37, ↓pl_47, ↓pl_58, ↓pl_64, ↓pl_70, ↓pl_79, ↓pl_87, ↓pl_95, ↓pl_100, ↓pl_108, ↓pl_116, ↓pl_124, hS, h1, hgi, eq_false e]
  · intro a _
    show nc_Run m_X12_comesTo 5 _ _ _ = _
    rw [qr_X12_comesTo_5]
    simp (disch := omega) only [↓nc_lt_v, ↓nc_li_v, ↓nc_bI_v, ↓nc_bV_v, ↓nc_bL_v, ↓nc_ll_v, ↓bd8, ↓reduceIte, ↓nc_z_tI, ↓nc_z_0, ↓nc_z_1, nI_leI, nI_ltI, nI_1, tI_ne, tI_eq0, ne_eq, not_true_eq_false, not_false_eq_true, Decidable.not_not, hS, h1, Nat.le_refl]
    rfl
end CT
