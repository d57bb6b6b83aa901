/-! tasted, whole. -/
section TU
variable {w w' v : nc_H} {f C N h d c k fr : Nat} {S : Nat → Int32} {y : Int32}
theorem CW_eq (hW : CW w S C N c k) (h1 : ∀ j, 4 ≤ j → j < 8 → w'.1 1 0 j = w.1 1 0 j) (h2 : w'.1 166 0 = w.1 166 0) (h3 : w'.1 2 0 = w.1 2 0) : CW w' S C N c k := by
  obtain ⟨⟨l1, l2, l3, l4, l5⟩, l6, l7, l8⟩ := hW
  exact ⟨⟨by rw [h1 4 (by omega) (by omega)]; exact l1, by rw [h1 5 (by omega) (by omega)]; exact l2, by rw [h1 6 (by omega) (by omega)]; exact l3, by rw [h1 7 (by omega) (by omega)]; exact l4, by rw [h2]; exact l5⟩, by rw [h3]; exact l6, by rw [h3]; exact l7, by rw [h3]; exact l8⟩
theorem sh_sets (hX : CX S f C N h d c k) (hW : CW w S C N c k) (hfr : fr < 2 ^ N) (hj : dj S c fr) (h4 : w.1 1 0 4 = nI fr) (h0 : ∀ n, n < 10 → w.1 167 0 n = 0) (A0 : Int32) : ∃ w', nc_Run m_X1_setsThatGive 41 [some hO, none, some (.inl y), some (.inl (nI (2 ^ pcb 10 fr))), some (.inl (nI 0)), some (.inl A0), some (.inl 0), some (.inl (nI 0))] [] w = nc_Run m_X1_setsThatGive 41 [some hO, none, some (.inl y), some (.inl (nI (2 ^ pcb 10 fr))), some (.inl (nI (it (fun k' T => tst S C N c k fr y (pd fr k') T) 0 (2 ^ pcb 10 fr) (0, A0, fun _ => 0)).1)), some (.inl (it (fun k' T => tst S C N c k fr y (pd fr k') T) 0 (2 ^ pcb 10 fr) (0, A0, fun _ => 0)).2.1), some (.inl (svq fr (2 ^ pcb 10 fr))), some (.inl (nI (2 ^ pcb 10 fr)))] [] w' ∧ eqO (fun t a => t = 167 ∧ a = 0) w w' ∧ ∀ n, n < 10 → w'.1 167 0 n = (it (fun k' T => tst S C N c k fr y (pd fr k') T) 0 (2 ^ pcb 10 fr) (0, A0, fun _ => 0)).2.2 n := by
  have hN : N ≤ 10 := hX.1.1.2.2.2.2.2.2.1
  have pN := pow_N hN
  have pl := pc_le fr
  have pcl : 2 ^ pcb 10 fr ≤ 2 ^ 10 := Nat.pow_le_pow_right (by decide) (by rw [← pc_b]; exact pl)
  have hjs : ∀ s, s &&& fr = s → s < 2 ^ N ∧ dj S c s := fun s hs => by
    have := sub_le hs
    exact ⟨by omega, fun n hn q => hj n hn ((sub_bq (by omega) (by omega)).mp hs n hn q)⟩
  refine lp (R := fun i (v : nc_H) => nc_Run m_X1_setsThatGive 41 [some hO, none, some (.inl y), some (.inl (nI (2 ^ pcb 10 fr))), some (.inl (nI (it (fun k' T => tst S C N c k fr y (pd fr k') T) 0 i (0, A0, fun _ => 0)).1)), some (.inl (it (fun k' T => tst S C N c k fr y (pd fr k') T) 0 i (0, A0, fun _ => 0)).2.1), some (.inl (svq fr i)), some (.inl (nI i))] [] v) (I := fun i v => eqO (fun t a => t = 167 ∧ a = 0) w v ∧ ∀ n, n < 10 → v.1 167 0 n = (it (fun k' T => tst S C N c k fr y (pd fr k') T) 0 i (0, A0, fun _ => 0)).2.2 n) (n := 2 ^ pcb 10 fr) (Q := fun r => ∃ w', r = nc_Run m_X1_setsThatGive 41 [some hO, none, some (.inl y), some (.inl (nI (2 ^ pcb 10 fr))), some (.inl (nI (it (fun k' T => tst S C N c k fr y (pd fr k') T) 0 (2 ^ pcb 10 fr) (0, A0, fun _ => 0)).1)), some (.inl (it (fun k' T => tst S C N c k fr y (pd fr k') T) 0 (2 ^ pcb 10 fr) (0, A0, fun _ => 0)).2.1), some (.inl (svq fr (2 ^ pcb 10 fr))), some (.inl (nI (2 ^ pcb 10 fr)))] [] w' ∧ eqO (fun t a => t = 167 ∧ a = 0) w w' ∧ ∀ n, n < 10 → w'.1 167 0 n = (it (fun k' T => tst S C N c k fr y (pd fr k') T) 0 (2 ^ pcb 10 fr) (0, A0, fun _ => 0)).2.2 n) ?_ (fun v hv => ⟨v, rfl, hv⟩) (2 ^ pcb 10 fr) 0 w (by omega) ⟨eqO.rf, h0⟩
  rintro i v hi ⟨q1, q2⟩
  right
  rw [it_succ, Nat.zero_add]
  generalize it (fun k' T => tst S C N c k fr y (pd fr k') T) 0 i (0, A0, fun _ => 0) = T at q2 ⊢
  have hs : pd fr i &&& fr = pd fr i := pdp_sub 10 fr i
  have ls := sub_le hs
  have ps := pc_le (pd fr i)
  have nx : (svq fr i - nI fr) &&& nI fr = svq fr (i + 1) := rfl
  have W1 : CW v S C N c k := CW_eq hW (fun j _ _ => by rw [q1.2 1 0 (by omega)]) (q1.2 166 0 (by omega)) (q1.2 2 0 (by omega))
  have v4 : v.1 1 0 4 = nI fr := by rw [q1.2 1 0 (by omega)]; exact h4
  show ∃ b, nc_Run m_X1_setsThatGive 41 _ _ v = nc_Run m_X1_setsThatGive 41 _ _ b ∧ _
  rw [qr_X1_setsThatGive_41, if_neg (nI_ge hi (by omega))]
  simp only [qc_X1_setAfter, nc_bI_v]
  rw [svq_pd (by omega) i hi, s_bitCount v (by omega), nc_bI_v, W1.1.2.1, v4, ← svq_pd (by omega) i hi, nx, svq_pd (by omega) i hi]
  unfold tst
  by_cases q : (S 4 - nI (pc k)) < nI (pc (pd fr i))
  · rw [if_pos q, nc_li_v, nI_1, if_neg (fun z => z.2.1 q)]
    exact ⟨v, rfl, q1, q2⟩
  · rw [if_neg q, sh_milkBy hX W1 (hjs _ hs).1 (hjs _ hs).2, nc_bI_v]
    by_cases r : mwi S C N c (nI (pd fr i)) = y
    · obtain ⟨w2, a1, a2, a3⟩ := sh_countNews (w := v) (s := pd fr i) hN W1.2.2.2
      rw [if_neg (fun z => z r), nc_li_v, nc_li_v, a1, nc_bV_v, a2.2 1 0 (by omega), v4, ← svq_pd (by omega) i hi, nx, svq_pd (by omega) i hi, nc_li_v, nI_1, nI_1, if_pos ⟨hs, q, r⟩]
      exact ⟨w2, rfl, q1.tr a2, fun n hn => (a3 n hn).trans (ctf_c q2 n hn)⟩
    · rw [if_pos r, v4, ← svq_pd (by omega) i hi, nx, svq_pd (by omega) i hi, nc_li_v, nI_1, if_neg (fun z => r z.2.2)]
      exact ⟨v, rfl, q1, q2⟩
theorem sm_zero (x z u : Int32) : ∃ w', nc_Run m_X12_tasted 54 [some mO, some (.inl x), some (.inl z), some (.inl u), some (.inl (nI 0)), none] [] w = nc_Run m_X12_tasted 78 [some mO, some (.inl x), some (.inl z), some (.inl u), some (.inl (nI 0)), none] [] w' ∧ eqO (fun t a => t = 902 ∧ a = 0) w w' ∧ ∀ n, n < 10 → w'.1 902 0 n = 0 := by
  refine lp (R := fun i (v : nc_H) => nc_Run m_X12_tasted 54 [some mO, some (.inl x), some (.inl z), some (.inl u), some (.inl (nI i)), none] [] v) (I := fun i v => eqO (fun t a => t = 902 ∧ a = 0) w v ∧ ∀ n, n < i → v.1 902 0 n = 0) (n := 10) (Q := fun r => ∃ w', r = nc_Run m_X12_tasted 78 [some mO, some (.inl x), some (.inl z), some (.inl u), some (.inl (nI 0)), none] [] w' ∧ eqO (fun t a => t = 902 ∧ a = 0) w w' ∧ ∀ n, n < 10 → w'.1 902 0 n = 0) ?_ ?_ 10 0 w (by omega) ⟨eqO.rf, fun n hn => absurd hn (Nat.not_lt_zero n)⟩
  · rintro i v hi ⟨q1, q2⟩
    right
    refine ⟨row v 902 0 (upd (v.1 902 0) i 0), ?_, q1.row ⟨rfl, rfl⟩, fun n hn => ?_⟩
    · show nc_Run m_X12_tasted 54 _ _ v = nc_Run m_X12_tasted 54 _ _ _
      rw [qr_X12_tasted_54, if_neg (show ¬ (10 : Int32) ≤ nI i from nI_ge hi (by decide)), bd8 i 10 (by omega) (by decide), nc_lt_v, nc_li_v, nI_1, si_rw]
    · by_cases e : n = i
      · subst e
        rw [row_s, upd_s]
      · rw [row_s, upd_n e, q2 n (by omega)]
  · rintro v ⟨q1, q2⟩
    refine ⟨v, ?_, q1, q2⟩
    show nc_Run m_X12_tasted 54 _ _ v = _
    rw [qr_X12_tasted_54, if_pos (by decide +kernel)]
    rfl
theorem sm_sets (hX : CX S f C N h d c k) (hS : w.1 874 0 = S) (hy : w.1 869 0 0 &&& 255 = y) (hfr : fr < 2 ^ N) (ha : ∀ s, s < 2 ^ N → (s &&& fr = s ↔ dj S c s)) (h0 : ∀ n, n < 10 → w.1 902 0 n = 0) (A0 : Int32) : ∃ w', nc_Run m_X12_tasted 78 [some mO, some (.inl (nI c)), some (.inl (nI 0)), some (.inl A0), some (.inl (nI 0)), none] [] w = nc_Run m_X12_tasted 78 [some mO, some (.inl (nI c)), some (.inl (nI (it (tst S C N c k fr y) 0 (2 ^ N) (0, A0, fun _ => 0)).1)), some (.inl (it (tst S C N c k fr y) 0 (2 ^ N) (0, A0, fun _ => 0)).2.1), some (.inl (nI (2 ^ N))), none] [] w' ∧ eqO (fun t a => t = 902 ∧ a = 0) w w' ∧ ∀ n, n < 10 → w'.1 902 0 n = (it (tst S C N c k fr y) 0 (2 ^ N) (0, A0, fun _ => 0)).2.2 n := by
  have hX0 := hX
  obtain ⟨x1, x2, x3, x4, x5, x6, x7⟩ := hX
  have hC : C ≤ 8 := x1.1.2.2.2.2.2.1
  have hN : N ≤ 10 := x1.1.2.2.2.2.2.2.1
  have pN := pow_N hN
  have b10 : (1 <<< (nI N &&& 31) : Int32) = nI (2 ^ N) := bs_nI2 N (by omega)
  refine lp (R := fun i (v : nc_H) => nc_Run m_X12_tasted 78 [some mO, some (.inl (nI c)), some (.inl (nI (it (tst S C N c k fr y) 0 i (0, A0, fun _ => 0)).1)), some (.inl (it (tst S C N c k fr y) 0 i (0, A0, fun _ => 0)).2.1), some (.inl (nI i)), none] [] v) (I := fun i v => eqO (fun t a => t = 902 ∧ a = 0) w v ∧ ∀ n, n < 10 → v.1 902 0 n = (it (tst S C N c k fr y) 0 i (0, A0, fun _ => 0)).2.2 n) (n := 2 ^ N) (Q := fun r => ∃ w', r = nc_Run m_X12_tasted 78 [some mO, some (.inl (nI c)), some (.inl (nI (it (tst S C N c k fr y) 0 (2 ^ N) (0, A0, fun _ => 0)).1)), some (.inl (it (tst S C N c k fr y) 0 (2 ^ N) (0, A0, fun _ => 0)).2.1), some (.inl (nI (2 ^ N))), none] [] w' ∧ eqO (fun t a => t = 902 ∧ a = 0) w w' ∧ ∀ n, n < 10 → w'.1 902 0 n = (it (tst S C N c k fr y) 0 (2 ^ N) (0, A0, fun _ => 0)).2.2 n) ?_ (fun v hv => ⟨v, rfl, hv⟩) (2 ^ N) 0 w (by omega) ⟨eqO.rf, h0⟩
  rintro i v hi ⟨q1, q2⟩
  right
  rw [it_succ, Nat.zero_add]
  generalize it (tst S C N c k fr y) 0 i (0, A0, fun _ => 0) = T at q2 ⊢
  have vS : v.1 874 0 = S := (q1.2 874 0 (by omega)).trans hS
  have v2 : v.1 874 0 2 = nI N := by rw [vS]; exact x1.1.2.2.1
  have hs0 : shp (v.1 874 0) f C N h := by rw [vS]; exact x1.1
  show ∃ b, nc_Run m_X12_tasted 78 _ _ v = nc_Run m_X12_tasted 78 _ _ b ∧ _
  rw [qr_X12_tasted_78, v2, b10, if_neg (nI_ge hi (by omega))]
  unfold tst
  by_cases q : dj S c i ∧ ¬ (S 4 - nI (pc k)) < nI (pc i)
  · rw [sm_mayHear_t hX0 vS (by omega) q.1 q.2, nc_bI_v, if_neg (by decide), sm_milkWith v hs0 (by omega), nc_bI_v, vS, show (0 : Int32) = nI 0 from rfl, sm_octet (by omega), nc_bI_v, q1.2 869 0 (by omega), hy]
    by_cases r : mwi S C N c (nI i) = y
    · obtain ⟨w2, a1, a2, a3⟩ := sm_count (w := v) (s := i) hN v2 (nI c) (nI (T.1 + 1)) (T.2.1 &&& nI i)
      rw [if_pos r, nc_li_v, nc_li_v, nI_1, if_pos ⟨(ha i hi).mpr q.1, q.2, r⟩]
      exact ⟨w2, a1, q1.tr a2, fun n hn => (a3 n hn).trans (ctf_c q2 n hn)⟩
    · rw [if_neg r, nc_li_v, nI_1, if_neg (fun z => r z.2.2)]
      exact ⟨v, rfl, q1, q2⟩
  · rw [sm_mayHear_f hX0 vS (by omega) q, nc_bI_v, if_pos rfl, nc_li_v, nI_1, if_neg (fun z => q ⟨(ha i hi).mp z.1, z.2.1⟩)]
    exact ⟨v, rfl, q1, q2⟩
theorem and255 (x : Int32) : x &&& 255 ≠ -1 := fun q => by
  have := b_and x 255 31
  rw [q, b_255, b_m1 31 (by decide)] at this
  simp at this
theorem op_tasted (hI : Inv w) (x : Int32) : Op w (nc_Call m_X11_tasted [cO, .inl x]) (nc_Call m_X12_tasted [mO, .inl x]) := by
  have hI0 := hI
  obtain ⟨⟨f, C, N, h, d, hW⟩, hM, c3, c4, c5, ⟨⟨l, l1, l2, l3⟩, t2, t3⟩, c7, c8⟩ := hI
  have hW' := hW
  obtain ⟨⟨x1, x2, x3, x4, x5, x6⟩, x7⟩ := hW'
  have hC : C ≤ 8 := x3.1.2.2.2.2.2.1
  have hN : N ≤ 10 := x3.1.2.2.2.2.2.2.1
  have pN := pow_N hN
  have e2 : w.1 2 0 2 = nI C := x3.2.1.2.1
  have e77 : w.1 7 0 3 = w.1 874 0 77 := x5.1.1.1.2.1
  let w1 : nc_H := row w 10 0 (upd (w.1 10 0) 1 0)
  have r1 : ∀ t, t ≠ 10 → w1.1 t = w.1 t := fun t ht => row_t ht
  -- the model's taking, on any heap v behind the class's part
  have TK : ∀ v : nc_H, v.1 12 0 = w.1 12 0 → nc_Call m_X12_taken [mO, .inl 940] (thr v 0) = some (none, row (thr v 0) 12 0 (upd (upd (upd (upd ((thr v 0).1 12 0) 3 ((thr v 0).1 12 0 2)) 2 0) 4 0) 5 940)) := fun v _ => sm_taken
  have K : ∀ v : nc_H, v.1 12 0 = w.1 12 0 → ∀ k, k ≠ 0 → k ≠ 2 → k ≠ 3 → k ≠ 4 → k ≠ 5 → (row (thr v 0) 12 0 (upd (upd (upd (upd ((thr v 0).1 12 0) 3 ((thr v 0).1 12 0 2)) 2 0) 4 0) 5 940)).1 12 0 k = w.1 12 0 k := fun v hv k k0 k2 k3 k4 k5 => by rw [row_s, upd_n k5, upd_n k4, upd_n k2, upd_n k3, thr_k k0, hv]
  have K3 : ∀ v : nc_H, v.1 12 0 = w.1 12 0 → (row (thr v 0) 12 0 (upd (upd (upd (upd ((thr v 0).1 12 0) 3 ((thr v 0).1 12 0 2)) 2 0) 4 0) 5 940)).1 12 0 3 = nI l := fun v hv => by rw [row_s, upd_n (by decide), upd_n (by decide), upd_n (by decide), upd_s, thr_k (by decide), hv, l3]
  have K2 : ∀ v : nc_H, (row (thr v 0) 12 0 (upd (upd (upd (upd ((thr v 0).1 12 0) 3 ((thr v 0).1 12 0 2)) 2 0) 4 0) 5 940)).1 12 0 2 = nI 0 := fun v => by
    rw [row_s, upd_n (by decide), upd_n (by decide), upd_s]
    rfl
  have KT : ∀ v : nc_H, ∀ t a, t ≠ 12 → (row (thr v 0) 12 0 (upd (upd (upd (upd ((thr v 0).1 12 0) 3 ((thr v 0).1 12 0 2)) 2 0) 4 0) 5 940)).1 t a = v.1 t a := fun v t a ht => by rw [row_t ht, thr_t ht]
  have w10 : ∀ j, j ≠ 1 → w1.1 10 0 j = w.1 10 0 j := fun j hj => by
    show (row _ 10 0 _).1 10 0 j = _
    rw [row_s, upd_n hj]
  have w101 : w1.1 10 0 1 = nI 0 := by
    show (row _ 10 0 _).1 10 0 1 = _
    rw [row_s, upd_s]
    rfl
  have TPx : ∀ v v' : nc_H, v.1 10 0 = w1.1 10 0 → v.1 740 0 = w.1 740 0 → v.1 869 0 = w.1 869 0 → v.1 12 0 2 = nI 0 → v.1 12 0 15 = w.1 12 0 15 → TP v := fun v _ h1 h2 h3 h4 h5 => ⟨⟨0, by omega, by rw [h1]; exact w101, h4⟩, by rw [h2, h3]; exact t2, by rw [h1, h5, w10 14 (by decide)]; exact t3⟩
  -- nothing is tasted
  have NO : (∃ q, nc_Call m_X11_tasted [cO, .inl x] w = some (some (.inl (-1)), w1) ∧ q = ()) → ¬ (rng x C ∧ ¬ bq (w.1 874 0 77) x ∧ l = 1) → Op w (nc_Call m_X11_tasted [cO, .inl x]) (nc_Call m_X12_tasted [mO, .inl x]) := by
    rintro ⟨-, hc, -⟩ hn
    refine ⟨-1, w1, row (thr w1 0) 12 0 (upd (upd (upd (upd ((thr w1 0).1 12 0) 3 ((thr w1 0).1 12 0 2)) 2 0) 4 0) 5 940), hc, ?_, ?_⟩
    · have v12 : w1.1 12 0 = w.1 12 0 := by rw [r1 12 (by decide)]
      have s1 : (row (thr w1 0) 12 0 (upd (upd (upd (upd ((thr w1 0).1 12 0) 3 ((thr w1 0).1 12 0 2)) 2 0) 4 0) 5 940)).1 874 0 = w.1 874 0 := by rw [KT w1 874 0 (by decide), r1 874 (by decide)]
      rw [qc_X12_tasted, nc_lt_v, thr_si, TK w1 v12, nc_bV_v]
      by_cases q : rng x C
      · rw [mm_isCow_t (by rw [s1]; exact x3.1.2.1) (by omega) q, nc_bI_v, if_neg (by decide), sm_isDry, nc_bI_v, s1]
        by_cases q2 : bq (w.1 874 0 77) x
        · rw [if_pos (tI_ne.mpr q2)]
        · rw [if_neg (fun z => z (tI_eq0.mpr q2)), K3 w1 v12, if_neg (fun z => hn ⟨q, q2, (nI_eq (by omega) (by omega)).mp (z.trans (show (1 : Int32) = nI 1 from rfl))⟩)]
      · rw [mm_isCow_f (by rw [s1]; exact x3.1.2.1) (by omega) q, nc_bI_v, if_pos rfl]
    · have v12 : w1.1 12 0 = w.1 12 0 := by rw [r1 12 (by decide)]
      refine Inv_j hI0 (((eqO.rf.row (Or.inl ⟨rfl, by omega⟩)).row (Or.inl ⟨rfl, by omega⟩)).row (Or.inl ⟨rfl, by omega⟩)) (fun k hk => K w1 v12 k (by omega) (by omega) (by omega) (by omega) (by omega)) (TPx _ w1 ?_ ?_ ?_ (K2 w1) (K w1 v12 15 (by decide) (by decide) (by decide) (by decide) (by decide)))
      · rw [KT w1 10 0 (by decide)]
      · rw [KT w1 740 0 (by decide), r1 740 (by decide)]
      · rw [KT w1 869 0 (by decide), r1 869 (by decide)]
  by_cases hl : l = 1
  · have at0 : nc_Call m_X10_at [tO, .inl 0] w = some (some (.inl (w.1 740 0 0 &&& 255)), w) := sa_at (n := 0) (by omega)
    have st : nc_Call m_X11_tasted [cO, .inl x] w = nc_bI (nc_Call m_X11_canBeTold [cO, .inl x] w1) (fun r6 w5 => if r6 = 0 then some (some (.inl (-1)), w5) else nc_bI (nc_Call m_X1_setsThatGive [hO, .inl x, .inl (w.1 740 0 0 &&& 255)] w5) fun r8 w7 => some (some (.inl r8), w7)) := by
      rw [qc_X11_tasted, l2, hl, if_neg (fun q => q rfl)]
      show nc_bI (nc_Call m_X10_at [tO, .inl 0] w) _ = _
      rw [at0, nc_bI_v, nc_lt_v, si_rw, if_neg (and255 _)]
    by_cases b : rng x C ∧ ¬ bq (w.1 7 0 3) x
    · have b1 := b.1
      have b2 := b.2
      obtain ⟨c, hc, rfl⟩ := b1
      rw [e77] at b2
      have N1 : NW w1 f C N h d := NW_fr hW (fun t a ht => by rw [r1 t (by unfold sD sL sS sM at ht; omega)]) (fun _ _ _ => rfl) (by rw [r1 12 (by decide)])
      have s0 : w1.1 874 0 = w.1 874 0 := by rw [r1 874 (by decide)]
      obtain ⟨k, w2, CX1, a1, a2, a3, CW1⟩ := look N1 hc (by rw [s0]; exact b2)
      rw [s0] at CX1 CW1
      have fl := s_fill (w := w2) (t := 167) (a := 0) (n := 10) rfl rfl (by decide) 0
      let w3 : nc_H := row w2 167 0 (fun k => if k < 10 then 0 else w2.1 167 0 k)
      have CW3 : CW w3 (w.1 874 0) C N c k := CW_eq CW1 (fun j _ _ => by show (row _ 167 0 _).1 1 0 j = _; rw [row_t (by decide)]) (by show (row _ 167 0 _).1 166 0 = _; rw [row_t (by decide)]) (by show (row _ 167 0 _).1 2 0 = _; rw [row_t (by decide)])
      have hb : ∀ n, n < 32 → (bq (w3.1 1 0 4) (nI n) ↔ n < N ∧ ¬ bq (w.1 874 0 (100 + c)) (nI n)) := fun n hn => by rw [CW3.1.1, bq_and hn, bq_not hn, allN N hN n hn]
      obtain ⟨fr, fr1, fr2⟩ := toSet hN (fun n hn q => ((hb n hn).mp q).1)
      have ha : ∀ s, s < 2 ^ N → (s &&& fr = s ↔ dj (w.1 874 0) c s) := by
        intro s hs
        rw [sub_bq (by omega) (by omega), ← fr2]
        constructor
        · intro q n hn z
          exact ((hb n hn).mp (q n hn z)).2
        · intro q n hn z
          refine (hb n hn).mpr ⟨?_, q n hn z⟩
          refine Classical.byContradiction (fun u => ?_)
          rw [tb_bq (by omega) hn, Nat.testBit_lt_two_pow (Nat.lt_of_lt_of_le hs (Nat.pow_le_pow_right (by decide) (by omega)))] at z
          cases z
      have hj : dj (w.1 874 0) c fr := (ha fr fr1).mp (Nat.and_self fr)
      have pl := pc_le fr
      have pcl : 2 ^ pcb 10 fr ≤ 2 ^ 10 := Nat.pow_le_pow_right (by decide) (by rw [← pc_b]; exact pl)
      obtain ⟨w4, d1, d2, d3⟩ := sh_sets (y := w.1 740 0 0 &&& 255) CX1 CW3 fr1 hj fr2 (fun n hn => by show (row _ 167 0 _).1 167 0 n = _; rw [row_s, if_pos hn]) ((1 <<< (nI N &&& 31)) - 1)
      have eT := it_sub (st := tst (w.1 874 0) C N c k fr (w.1 740 0 0 &&& 255)) (n := 2 ^ N) (show fr < 1024 by omega) (fun s hs T => by unfold tst; rw [if_neg (fun z => hs z.1)]) fr1 ((0, (1 <<< (nI N &&& 31)) - 1, fun _ => 0) : TT)
      rw [← eT] at d1 d3
      have Tle : (it (tst (w.1 874 0) C N c k fr (w.1 740 0 0 &&& 255)) 0 (2 ^ N) ((0, (1 <<< (nI N &&& 31)) - 1, fun _ => 0) : TT)).1 ≤ 2 ^ N := it_inv (st := tst (w.1 874 0) C N c k fr (w.1 740 0 0 &&& 255)) (I := fun i T => T.1 ≤ i) (n := 2 ^ N) (fun i T _ hT => Nat.le_trans tst_le (by omega)) (2 ^ N) 0 _ (by omega) (Nat.le_refl 0)
      have E4 : eqO (fun t a => a = 0 ∧ (t = 1 ∨ t = 10 ∨ t = 12 ∨ t = 166 ∨ t = 167 ∨ t = 902)) w w4 := (((eqO.rf.row ⟨rfl, by omega⟩).tr (a2.mono (fun t a q => ⟨q.1, by have := q.2; omega⟩))).row ⟨rfl, by omega⟩).tr (d2.mono (fun t a q => ⟨q.2, by omega⟩))
      have q4 : ∀ t, t ≠ 1 → t ≠ 166 → t ≠ 167 → w4.1 t 0 = w1.1 t 0 := fun t h1 h2 h3 => by
        rw [d2.2 t 0 (by omega)]
        show (row _ 167 0 _).1 t 0 = _
        rw [row_t h3, a2.2 t 0 (by unfold cQ; omega)]
      have q41 : ∀ j, j < 4 ∨ 8 ≤ j → w4.1 1 0 j = w.1 1 0 j := fun j hj => by
        rw [d2.2 1 0 (by omega)]
        show (row _ 167 0 _).1 1 0 j = _
        rw [row_t (by decide), a3 j hj, r1 1 (by decide)]
      have w42 : w4.1 2 0 3 = nI N := by rw [q4 2 (by decide) (by decide) (by decide), r1 2 (by decide)]; exact x3.2.1.2.2.1
      have cl : nc_Call m_X11_tasted [cO, .inl (nI c)] w = nc_bI (nc_Run m_X1_setsThatGive 41 [some hO, none, some (.inl (w.1 740 0 0 &&& 255)), some (.inl (nI (2 ^ pcb 10 fr))), some (.inl (nI (it (tst (w.1 874 0) C N c k fr (w.1 740 0 0 &&& 255)) 0 (2 ^ N) ((0, (1 <<< (nI N &&& 31)) - 1, fun _ => 0) : TT)).1)), some (.inl (it (tst (w.1 874 0) C N c k fr (w.1 740 0 0 &&& 255)) 0 (2 ^ N) ((0, (1 <<< (nI N &&& 31)) - 1, fun _ => 0) : TT)).2.1), some (.inl (svq fr (2 ^ pcb 10 fr))), some (.inl (nI (2 ^ pcb 10 fr)))] [] w4) (fun r8 w7 => some (some (.inl r8), w7)) := by
        rw [st, sc_can_t (by rw [r1 2 (by decide)]; exact e2) hC b.1 (by rw [r1 7 (by decide)]; exact b.2), nc_bI_v, if_neg (by decide), qc_X1_setsThatGive, a1, nc_bV_v, fl, nc_bV_v]
        show nc_bI (nc_bI (nc_Call m_J6_bitCount_0f7a4 [.inl (w3.1 1 0 4)] w3) _) _ = _
        rw [fr2, s_bitCount w3 (by omega), nc_bI_v, nc_li_v, show (1 <<< (nI (pc fr) &&& 31) : Int32) = nI (2 ^ pcb 10 fr) from by rw [← pc_b]; exact bs_nI2 _ (by omega), qc_X2_allNews, nc_bI_v, show w3.1 2 0 3 = nI N from CW3.2.2.2, ← d1]
        rfl
      have ml : ∀ v : nc_H, v.1 12 0 = w.1 12 0 → v.1 874 0 = w.1 874 0 → v.1 869 0 = w.1 869 0 → ∃ v', nc_Call m_X12_tasted [mO, .inl (nI c)] v = nc_Run m_X12_tasted 78 [some mO, some (.inl (nI c)), some (.inl (nI (it (tst (w.1 874 0) C N c k fr (w.1 740 0 0 &&& 255)) 0 (2 ^ N) ((0, (1 <<< (nI N &&& 31)) - 1, fun _ => 0) : TT)).1)), some (.inl (it (tst (w.1 874 0) C N c k fr (w.1 740 0 0 &&& 255)) 0 (2 ^ N) ((0, (1 <<< (nI N &&& 31)) - 1, fun _ => 0) : TT)).2.1), some (.inl (nI (2 ^ N))), none] [] v' ∧ eqO (fun t a => t = 902 ∧ a = 0) (row (thr v 0) 12 0 (upd (upd (upd (upd ((thr v 0).1 12 0) 3 ((thr v 0).1 12 0 2)) 2 0) 4 0) 5 940)) v' ∧ ∀ n, n < 10 → v'.1 902 0 n = (it (tst (w.1 874 0) C N c k fr (w.1 740 0 0 &&& 255)) 0 (2 ^ N) ((0, (1 <<< (nI N &&& 31)) - 1, fun _ => 0) : TT)).2.2 n := by
        intro v v12 vS vB
        have s1 : (row (thr v 0) 12 0 (upd (upd (upd (upd ((thr v 0).1 12 0) 3 ((thr v 0).1 12 0 2)) 2 0) 4 0) 5 940)).1 874 0 = w.1 874 0 := by rw [KT v 874 0 (by decide), vS]
        obtain ⟨u1, f1, f2, f3⟩ := sm_zero (w := row (thr v 0) 12 0 (upd (upd (upd (upd ((thr v 0).1 12 0) 3 ((thr v 0).1 12 0 2)) 2 0) 4 0) 5 940)) (nI c) (nI 0) ((1 <<< (nI N &&& 31)) - 1)
        obtain ⟨u2, g1, g2, g3⟩ := sm_sets (w := u1) (y := w.1 740 0 0 &&& 255) CX1 ((f2.2 874 0 (by omega)).trans s1) (by rw [f2.2 869 0 (by omega), KT v 869 0 (by decide), vB, t2 0 (by omega)]) fr1 ha f3 ((1 <<< (nI N &&& 31)) - 1)
        refine ⟨u2, ?_, f2.tr g2, g3⟩
        rw [qc_X12_tasted, nc_lt_v, thr_si, TK v v12, nc_bV_v, mm_isCow_t (by rw [s1]; exact x3.1.2.1) (by omega) b.1, nc_bI_v, if_neg (by decide), sm_isDry, nc_bI_v, s1, if_neg (fun z => z (tI_eq0.mpr b2)), K3 v v12, if_pos (by rw [hl]; rfl), nc_li_v, x3.1.2.2.1, ← g1]
        exact f1
      generalize it (tst (w.1 874 0) C N c k fr (w.1 740 0 0 &&& 255)) 0 (2 ^ N) ((0, (1 <<< (nI N &&& 31)) - 1, fun _ => 0) : TT) = T at cl ml d3 Tle
      by_cases T0 : T.1 = 0
      · obtain ⟨v', m1, m2, m3⟩ := ml w4 (by rw [q4 12 (by decide) (by decide) (by decide), r1 12 (by decide)]) (by rw [q4 874 (by decide) (by decide) (by decide), r1 874 (by decide)]) (by rw [q4 869 (by decide) (by decide) (by decide), r1 869 (by decide)])
        have w412 : w4.1 12 0 = w.1 12 0 := by rw [q4 12 (by decide) (by decide) (by decide), r1 12 (by decide)]
        refine ⟨nI 0, w4, v', ?_, ?_, ?_⟩
        · rw [cl, qr_X1_setsThatGive_41, if_pos (nI_le (Nat.le_refl _) (by omega)), T0, if_pos (by decide), nc_bI_v]
        · rw [m1, qr_X12_tasted_78, m2.2 874 0 (by omega), KT w4 874 0 (by decide), q4 874 (by decide) (by decide) (by decide), r1 874 (by decide), x3.1.2.2.1, show (1 <<< (nI N &&& 31) : Int32) = nI (2 ^ N) from bs_nI2 N (by omega), if_pos (nI_le (Nat.le_refl _) (by omega)), T0, if_neg (fun z => z rfl)]
          rfl
        · have k' : ∀ j, j ≠ 0 → j ≠ 2 → j ≠ 3 → j ≠ 4 → j ≠ 5 → v'.1 12 0 j = w.1 12 0 j := fun j h0 h2 h3 h4 h5 => by rw [m2.2 12 0 (by omega), K w4 w412 j h0 h2 h3 h4 h5]
          have kt : ∀ t, t ≠ 12 → t ≠ 902 → v'.1 t 0 = w4.1 t 0 := fun t h1 h2 => by rw [m2.2 t 0 (by omega), KT w4 t 0 h1]
          refine Inv_ch hI0 (((E4.row ⟨rfl, by omega⟩).row ⟨rfl, by omega⟩).tr (m2.mono (fun t a q => ⟨q.2, by omega⟩))) ?_ (TPx v' w1 ?_ ?_ ?_ ?_ (k' 15 (by decide) (by decide) (by decide) (by decide) (by decide))) (fun j hj => k' j (by omega) (by omega) (by omega) (by omega) (by omega))
          · unfold CH
            rw [k' 25 (by decide) (by decide) (by decide) (by decide) (by decide), k' 26 (by decide) (by decide) (by decide) (by decide) (by decide), k' 31 (by decide) (by decide) (by decide) (by decide) (by decide), k' 32 (by decide) (by decide) (by decide) (by decide) (by decide), k' 33 (by decide) (by decide) (by decide) (by decide) (by decide), kt 1 (by decide) (by decide), q41 8 (by omega), q41 9 (by omega), q41 10 (by omega)]
            exact c3
          · rw [kt 10 (by decide) (by decide), q4 10 (by decide) (by decide) (by decide)]
          · rw [kt 740 (by decide) (by decide), q4 740 (by decide) (by decide) (by decide), r1 740 (by decide)]
          · rw [kt 869 (by decide) (by decide), q4 869 (by decide) (by decide) (by decide), r1 869 (by decide)]
          · rw [m2.2 12 0 (by omega), K2]
      · let w5 : nc_H := row w4 1 0 (upd (w4.1 1 0) 9 T.2.1)
        have me := sh_mostEven (w := w5) (g := T.2.2) (F := nI T.1) hN (by show (row _ 1 0 _).1 2 0 3 = _; rw [row_t (by decide)]; exact w42) (fun n hn => by show (row _ 1 0 _).1 167 0 n = _; rw [row_t (by decide)]; exact d3 n hn)
        let w6 : nc_H := row w5 1 0 (upd (w5.1 1 0) 10 (lsI (it (evS T.2.2 (nI T.1)) 0 N none)))
        have q6 : ∀ t, t ≠ 1 → w6.1 t = w4.1 t := fun t ht => (row_t ht).trans (row_t ht)
        have q61 : ∀ j, w6.1 1 0 j = upd (upd (w4.1 1 0) 9 T.2.1) 10 (lsI (it (evS T.2.2 (nI T.1)) 0 N none)) j := fun j => by
          show (row w5 1 0 _).1 1 0 j = _
          rw [row_s]
          show upd ((row w4 1 0 _).1 1 0) 10 _ j = _
          rw [row_s]
        have w612 : w6.1 12 0 = w.1 12 0 := by rw [q6 12 (by decide), q4 12 (by decide) (by decide) (by decide), r1 12 (by decide)]
        obtain ⟨v', m1, m2, m3⟩ := ml w6 w612 (by rw [q6 874 (by decide), q4 874 (by decide) (by decide) (by decide), r1 874 (by decide)]) (by rw [q6 869 (by decide), q4 869 (by decide) (by decide) (by decide), r1 869 (by decide)])
        let v2 : nc_H := row v' 12 0 (upd (upd (upd (v'.1 12 0) 33 1) 31 T.2.1) 32 (-1))
        have vS : v'.1 874 0 = w.1 874 0 := by rw [m2.2 874 0 (by omega), KT w6 874 0 (by decide), q6 874 (by decide), q4 874 (by decide) (by decide) (by decide), r1 874 (by decide)]
        obtain ⟨v3, n1, n2, n3, n4⟩ := sm_even (w := v2) (g := T.2.2) (F := nI T.1) hN (by show (row _ 12 0 _).1 874 0 2 = _; rw [row_t (by decide), vS]; exact x3.1.2.2.1) (fun n hn => by show (row _ 12 0 _).1 902 0 n = _; rw [row_t (by decide)]; exact m3 n hn) (by show (row _ 12 0 _).1 12 0 32 = _; rw [row_s, upd_s])
        have k' : ∀ j, j ≠ 0 → j ≠ 2 → j ≠ 3 → j ≠ 4 → j ≠ 5 → j ≠ 31 → j ≠ 32 → j ≠ 33 → v3.1 12 0 j = w.1 12 0 j := fun j h0 h2 h3 h4 h5 h6 h7 h8 => by
          rw [n3 j h7]
          show (row _ 12 0 _).1 12 0 j = _
          rw [row_s, upd_n h7, upd_n h6, upd_n h8, m2.2 12 0 (by omega), K w6 w612 j h0 h2 h3 h4 h5]
        have kt : ∀ t, t ≠ 12 → t ≠ 902 → v3.1 t 0 = w6.1 t 0 := fun t h1 h2 => by
          rw [n2.2 t 0 (by omega)]
          show (row _ 12 0 _).1 t 0 = _
          rw [row_t h1, m2.2 t 0 (by omega), KT w6 t 0 h1]
        refine ⟨nI T.1, w6, v3, ?_, ?_, ?_⟩
        · rw [cl, qr_X1_setsThatGive_41, if_pos (nI_le (Nat.le_refl _) (by omega)), if_neg (nI_nle (by omega) (by omega)), nc_lt_v, si_rw]
          show nc_bI (nc_bI (nc_Call m_X1_mostEven [hO, .inl (nI T.1)] w5) _) _ = _
          rw [me, nc_bI_v, nc_lt_v, si_rw, nc_bI_v]
        · rw [m1, qr_X12_tasted_78, vS, x3.1.2.2.1, show (1 <<< (nI N &&& 31) : Int32) = nI (2 ^ N) from bs_nI2 N (by omega), if_pos (nI_le (Nat.le_refl _) (by omega)), if_pos (nI_ne0 (by omega) (by omega)), nc_lt_v, nc_lt_v, nc_lt_v]
          simp only [si_rw, row_s, row_r]
          exact n1
        · refine Inv_ch hI0 (((((((E4.row ⟨rfl, by omega⟩).row ⟨rfl, by omega⟩).row ⟨rfl, by omega⟩).row ⟨rfl, by omega⟩).tr (m2.mono (fun t a q => ⟨q.2, by omega⟩))).row ⟨rfl, by omega⟩).tr (n2.mono (fun t a q => ⟨q.2, by omega⟩))) ⟨?_, Or.inr ⟨?_, ?_, ?_⟩⟩ (TPx v3 w1 ?_ ?_ ?_ ?_ (k' 15 (by decide) (by decide) (by decide) (by decide) (by decide) (by decide) (by decide) (by decide))) (fun j hj => k' j (by omega) (by omega) (by omega) (by omega) (by omega) (by omega) (by omega) (by omega))
          · rw [k' 25 (by decide) (by decide) (by decide) (by decide) (by decide) (by decide) (by decide) (by decide), k' 26 (by decide) (by decide) (by decide) (by decide) (by decide) (by decide) (by decide) (by decide), kt 1 (by decide) (by decide), q61, upd_n (by decide), upd_n (by decide), q41 8 (by omega)]
            exact c3.1
          · rw [n3 33 (by decide)]
            show (row _ 12 0 _).1 12 0 33 = _
            rw [row_s, upd_n (by decide), upd_n (by decide), upd_s]
          · rw [kt 1 (by decide) (by decide), q61, upd_n (by decide), upd_s, n3 31 (by decide)]
            show _ = (row _ 12 0 _).1 12 0 31
            rw [row_s, upd_n (by decide), upd_s]
          · rw [kt 1 (by decide) (by decide), q61, upd_s, n4]
          · rw [kt 10 (by decide) (by decide), q6 10 (by decide), q4 10 (by decide) (by decide) (by decide)]
          · rw [kt 740 (by decide) (by decide), q6 740 (by decide), q4 740 (by decide) (by decide) (by decide), r1 740 (by decide)]
          · rw [kt 869 (by decide) (by decide), q6 869 (by decide), q4 869 (by decide) (by decide) (by decide), r1 869 (by decide)]
          · rw [n3 2 (by decide)]
            show (row _ 12 0 _).1 12 0 2 = _
            rw [row_s, upd_n (by decide), upd_n (by decide), upd_n (by decide), m2.2 12 0 (by omega), K2]
    · refine NO ⟨(), ?_, rfl⟩ (fun z => b ⟨z.1, by rw [e77]; exact z.2.1⟩)
      rw [st, sc_can_f (by rw [r1 2 (by decide)]; exact e2) hC (by rw [r1 7 (by decide)]; exact b), nc_bI_v, if_pos rfl]
  · refine NO ⟨(), ?_, rfl⟩ (fun z => hl z.2.2)
    rw [qc_X11_tasted, l2, if_pos (fun z => hl ((nI_eq (by omega) (by omega)).mp (z.trans (show (1 : Int32) = nI 1 from rfl)))), nc_lt_v, si_rw]
end TU
