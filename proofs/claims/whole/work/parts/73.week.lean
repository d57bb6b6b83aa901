/-! week. -/
section WK
variable {w w' v : nc_H} {f C N h d n : Nat} {S : Nat → Int32} {x : Int32}
theorem it_z {P : Nat → Prop} [DecidablePred P] : ∀ (k i : Nat), it (fun j (x : Int32) => if x = 0 then 0 else tI (P j)) i k 0 = 0
  | 0, _ => rfl
  | k + 1, i => by
    show it (fun j (x : Int32) => if x = 0 then 0 else tI (P j)) (i + 1) k (if (0 : Int32) = 0 then 0 else tI (P i)) = 0
    rw [if_pos rfl, it_z k (i + 1)]
/-- do pails of farm g from day i on fit the bytes B -/
abbrev fitP (S B : Nat → Int32) (g i j : Nat) : Prop := S (212 + 30 * g + (i + j) % 30) = B j &&& 255
def fitv (S B : Nat → Int32) (g i l : Nat) : Int32 := it (fun j (x : Int32) => if x = 0 then 0 else tI (fitP S B g i j)) 0 l 1
theorem sa_at (hn : n < 940) : nc_Call m_X10_at [tO, .inl (nI n)] w = some (some (.inl (w.1 740 0 n &&& 255)), w) := by
  rw [qc_X10_at, if_neg (nI_pos (by omega)), if_neg (show ¬ (940 : Int32) ≤ nI n from nI_ge hn (by decide)), bd8 n 940 hn (by decide)]
theorem sm_octet (hn : n < 940) : nc_Call m_X12_octet [mO, .inl (nI n)] w = some (some (.inl (w.1 869 0 n &&& 255)), w) := by
  rw [qc_X12_octet, bd8 n 940 hn (by decide)]
theorem sm_taken : nc_Call m_X12_taken [mO, .inl x] w = some (none, row w 12 0 (upd (upd (upd (upd (w.1 12 0) 3 (w.1 12 0 2)) 2 0) 4 0) 5 x)) := by
  rw [qc_X12_taken]
  simp only [nc_lt_v, si_rw, row_s, row_r]
theorem sc_fits {g i l : Nat} (hL : LR w 0 S f C N) (hf : f ≤ 4) (hl : lok S C N d) (hg : g < f) (hi : d ≤ i + 30) (hil : i + l ≤ d) (hl7 : l ≤ 7) : nc_Call m_X11_fits [cO, .inl (nI g), .inl (nI i), .inl (nI l)] w = some (some (.inl (fitv S (w.1 740 0) g i l)), w) := by
  rw [qc_X11_fits]
  have hd4 := hl.2.1
  have key : ∀ k j, j + k = l → nc_Run m_X11_fits 3 [some cO, some (.inl (nI g)), some (.inl (nI i)), some (.inl (nI l)), some (.inl (nI j))] [] w = some (some (.inl (it (fun j (x : Int32) => if x = 0 then 0 else tI (fitP S (w.1 740 0) g i j)) j k 1)), w) := by
    intro k
    induction k with
    | zero =>
      intro j hj
      rw [qr_X11_fits_3, if_pos (nI_le (by omega) (by omega))]
      rfl
    | succ k ih =>
      intro j hj
      have p30 : nI d - 30 ≤ nI (i + j) := by
        by_cases q : 30 ≤ d
        · rw [show (30 : Int32) = nI 30 from rfl, pk_sub q, nI_leI (by omega) (by omega)]
          omega
        · exact Int32.le_of_lt (Int32.lt_of_lt_of_le (show nI d - 30 < 0 from pk_sneg (b := 30) (by omega) (by omega)) (nI_pos' (by omega)))
      rw [qr_X11_fits_3, if_neg (nI_ge (by omega) (by omega)), nI_add, sl_pailsOn_t hL hf hl hg (by omega) p30, nc_bI_v, sa_at (by omega), nc_bI_v]
      show _ = (some (some (.inl (it (fun j (x : Int32) => if x = 0 then 0 else tI (fitP S (w.1 740 0) g i j)) (j + 1) k (if (1 : Int32) = 0 then 0 else tI (fitP S (w.1 740 0) g i j)))), w) : Option nc_R)
      rw [if_neg (show ¬ (1 : Int32) = 0 by decide)]
      by_cases q : fitP S (w.1 740 0) g i j
      · rw [if_pos q, nc_li_v, nI_1, ih (j + 1) (by omega), tI_t q]
      · rw [if_neg q, tI_f q, it_z]
  exact key l 0 (by omega)
theorem sm_fits {g i l : Nat} {B : Nat → Int32} (h3 : w.1 12 0 3 = nI l) (hS : w.1 874 0 = S) (hB : w.1 869 0 = B) (hg : g < 4) (hi : i ≤ 400) (hl7 : l ≤ 7) : nc_Run m_X12_week 71 [some mO, some (.inl (nI g)), some (.inl (nI i)), some (.inl 1), some (.inl (nI 0))] [] w = if fitv S B g i l = 0 then nc_Run m_X12_week 50 [some mO, some (.inl (nI g)), some (.inl (nI (i + 1))), none, none] [] w else some (some (.inl (nI i)), w) := by
  have key := it_loop (R := fun j (z : Int32) => nc_Run m_X12_week 71 [some mO, some (.inl (nI g)), some (.inl (nI i)), some (.inl z), some (.inl (nI j))] [] w) (st := fun j (x : Int32) => if x = 0 then 0 else tI (fitP S B g i j)) (I := fun _ _ => True) (n := l) (out := fun z => if z = 0 then nc_Run m_X12_week 50 [some mO, some (.inl (nI g)), some (.inl (nI (i + 1))), none, none] [] w else some (some (.inl (nI i)), w)) ?_ ?_ l 0 1 (by omega) trivial
  · exact key
  · intro j z hj _
    refine ⟨?_, trivial⟩
    show nc_Run m_X12_week 71 _ _ _ = nc_Run m_X12_week 71 _ _ _
    have hm := Nat.mod_lt (i + j) (show 30 > 0 by decide)
    have ix : (212 + (30 * nI g)) + ((nI i + nI j) - (nI i + nI j) / 30 * 30) = nI (212 + 30 * g + (i + j) % 30) := by
      rw [nI_add, show (30 : Int32) = nI 30 from rfl, pk_rem (by omega) (by omega) (by omega), pk_mul, show (212 : Int32) = nI 212 from rfl, nI_add, nI_add]
    rw [qr_X12_week_71, h3, if_neg (nI_ge hj (by omega))]
    by_cases z0 : z = 0
    · rw [if_pos z0, nc_li_v, nI_1, if_pos z0]
    · rw [if_neg z0, nc_bd_of _ ix (by omega) (by decide), sm_octet (by omega), nc_bI_v, hS, hB, if_neg z0]
      by_cases q : fitP S B g i j
      · rw [if_neg (fun r => r q), nc_li_v, nI_1, tI_t q]
      · rw [if_pos q, nc_li_v, nI_1, tI_f q]
  · intro z _
    show nc_Run m_X12_week 71 _ _ _ = _
    rw [qr_X12_week_71, h3, if_pos (nI_le (Nat.le_refl _) (by omega))]
    by_cases z0 : z = 0
    · rw [if_pos z0, nc_li_v, nI_1, if_pos z0]
    · rw [if_neg z0, if_neg z0]
theorem op_week (hI : Inv w) (x : Int32) : Op w (nc_Call m_X11_week [cO, .inl x]) (nc_Call m_X12_week [mO, .inl x]) := by
  have hI0 := hI
  obtain ⟨⟨f, C, N, h, d, ⟨⟨x1, x2, x3, x4, x5, x6⟩, x7⟩⟩, -, -, -, -, ⟨⟨l, l1, l2, l3⟩, t2, t3⟩, -, -⟩ := hI
  have hf : f ≤ 4 := x3.1.2.2.2.2.1
  have hd4 := x2.2.1
  have e1 : w.1 2 0 1 = nI f := x3.2.1.1
  let w1 : nc_H := row w 10 0 (upd (w.1 10 0) 1 0)
  let w2 : nc_H := row (thr w1 0) 12 0 (upd (upd (upd (upd ((thr w1 0).1 12 0) 3 ((thr w1 0).1 12 0 2)) 2 0) 4 0) 5 940)
  have r1 : ∀ t, t ≠ 10 → w1.1 t = w.1 t := fun t ht => row_t ht
  have r2 : ∀ t, t ≠ 10 → t ≠ 12 → w2.1 t = w.1 t := fun t h1 h2 => (row_t h2).trans ((thr_t h2).trans (r1 t h1))
  have k12' : ∀ k, k ≠ 0 → k ≠ 2 → k ≠ 3 → k ≠ 4 → k ≠ 5 → w2.1 12 0 k = w.1 12 0 k := fun k k0 k2 k3 k4 k5 => by
    show (row _ 12 0 _).1 12 0 k = _
    rw [row_s, upd_n k5, upd_n k4, upd_n k2, upd_n k3, thr_k k0, r1 12 (by decide)]
  have k3 : w2.1 12 0 3 = nI l := by
    show (row _ 12 0 _).1 12 0 3 = _
    rw [row_s, upd_n (by decide), upd_n (by decide), upd_n (by decide), upd_s, thr_k (by decide), r1 12 (by decide), l3]
  have k2 : w2.1 12 0 2 = nI 0 := by
    show (row _ 12 0 _).1 12 0 2 = _
    rw [row_s, upd_n (by decide), upd_n (by decide), upd_s]
    rfl
  have I2 : Inv w2 := by
    refine Inv_j hI0 (((eqO.rf.row (Or.inl ⟨rfl, by omega⟩)).row (Or.inl ⟨rfl, by omega⟩)).row (Or.inl ⟨rfl, by omega⟩)) (fun k hk => k12' k (by omega) (by omega) (by omega) (by omega) (by omega)) ⟨⟨0, by omega, ?_, k2⟩, ?_, ?_⟩
    · show (row _ 12 0 _).1 10 0 1 = _
      rw [row_t (by decide), thr_t (by decide)]
      show (row _ 10 0 _).1 10 0 1 = _
      rw [row_s, upd_s]
      rfl
    · rw [r2 740 (by decide) (by decide), r2 869 (by decide) (by decide)]
      exact t2
    · rw [k12' 15 (by decide) (by decide) (by decide) (by decide) (by decide)]
      show (row _ 12 0 _).1 10 0 14 = _
      rw [row_t (by decide), thr_t (by decide)]
      show (row _ 10 0 _).1 10 0 14 = _
      rw [row_s, upd_n (by decide)]
      exact t3
  have mS : w2.1 874 0 = w.1 874 0 := by rw [r2 874 (by decide) (by decide)]
  have tk : nc_Call m_X12_taken [mO, .inl 940] (thr w1 0) = some (none, w2) := sm_taken
  by_cases b : rng x f
  · have b' := b
    obtain ⟨g, g1, rfl⟩ := b'
    by_cases q : 1 ≤ l ∧ l ≤ 7
    · have L1 : LR w1 0 (w.1 874 0) f C N := LR_eq x5 (fun t ht => by rw [r1 t (by omega)])
      have e7 : w1.1 7 0 1 = nI d := by rw [r1 7 (by decide)]; exact x5.1.1.1.1.trans x2.1
      have fq : ∀ i, fitv (w.1 874 0) (w1.1 740 0) g i l = fitv (w.1 874 0) (w2.1 869 0) g i l := fun i => by
        unfold fitv
        exact it_cong (n := l) (fun j z hj => by
          rw [tI_c (show fitP (w.1 874 0) (w1.1 740 0) g i j ↔ fitP (w.1 874 0) (w2.1 869 0) g i j from by
            unfold fitP
            rw [r1 740 (by decide), r2 869 (by decide) (by decide), t2 j (by omega)])]) l 0 1 (by omega)
      have hmx : (if (0 : Int32) < nI d - 30 then nI d - 30 else (0 : Int32)) = nI (d - 30) := by
        by_cases y : 30 ≤ d
        · rw [show (30 : Int32) = nI 30 from rfl, pk_sub y]
          by_cases y2 : d = 30
          · subst y2
            decide +kernel
          · rw [if_pos (show (0 : Int32) < nI (d - 30) from nI_lt (a := 0) (by omega) (by omega))]
        · rw [if_neg (Int32.not_lt.mpr (Int32.le_of_lt (show nI d - 30 < 0 from pk_sneg (b := 30) (by omega) (by omega)))), show d - 30 = 0 by omega]
          rfl
      have A : ∀ r i, r = d + 1 - l - i → d - 30 ≤ i → i ≤ d → nc_Run m_X11_week 52 [some cO, some (.inl (nI g)), some (.inl (nI l)), some (.inl (nI i))] [] w1 = some (some (.inl (fk (fun i => fitv (w.1 874 0) (w2.1 869 0) g i l ≠ 0) 0 r i)), w1) := by
        intro r
        induction r with
        | zero =>
          intro i hr h1 h2
          rw [qr_X11_week_52, e7, nI_add, if_pos (nI_lt (by omega) (by omega))]
          rfl
        | succ r ih =>
          intro i hr h1 h2
          rw [qr_X11_week_52, e7, nI_add, if_neg (nI_nlt (by omega) (by omega)), sc_fits L1 hf x2 g1 (by omega) (by omega) q.2, nc_bI_v, fq i]
          show _ = (some (some (.inl (if fitv (w.1 874 0) (w2.1 869 0) g i l ≠ 0 then nI (0 + i) else fk (fun i => fitv (w.1 874 0) (w2.1 869 0) g i l ≠ 0) 0 r (i + 1))), w1) : Option nc_R)
          by_cases z : fitv (w.1 874 0) (w2.1 869 0) g i l = 0
          · rw [if_pos z, nc_li_v, nI_1, ih (i + 1) (by omega) (by omega) (by omega), if_neg (fun y => y z)]
          · rw [if_neg z, if_pos z, Nat.zero_add]
      have B : ∀ r i, r = d + 1 - l - i → i ≤ d → nc_Run m_X12_week 50 [some mO, some (.inl (nI g)), some (.inl (nI i)), none, none] [] w2 = some (some (.inl (fk (fun i => fitv (w.1 874 0) (w2.1 869 0) g i l ≠ 0) 0 r i)), w2) := by
        intro r
        induction r with
        | zero =>
          intro i hr h2
          rw [qr_X12_week_50, mS, x2.1, k3, nI_add, if_pos (nI_lt (by omega) (by omega))]
          rfl
        | succ r ih =>
          intro i hr h2
          rw [qr_X12_week_50, mS, x2.1, k3, nI_add, if_neg (nI_nlt (by omega) (by omega))]
          refine (sm_fits k3 mS rfl (by omega) (by omega) q.2).trans ?_
          show _ = (some (some (.inl (if fitv (w.1 874 0) (w2.1 869 0) g i l ≠ 0 then nI (0 + i) else fk (fun i => fitv (w.1 874 0) (w2.1 869 0) g i l ≠ 0) 0 r (i + 1))), w2) : Option nc_R)
          by_cases z : fitv (w.1 874 0) (w2.1 869 0) g i l = 0
          · rw [if_pos z, ih (i + 1) (by omega) (by omega), if_neg (fun y => y z)]
          · rw [if_neg z, if_pos z, Nat.zero_add]
      refine ⟨fk (fun i => fitv (w.1 874 0) (w2.1 869 0) g i l ≠ 0) 0 (d + 1 - l - (d - 30)) (d - 30), w1, w2, ?_, ?_, I2⟩
      · rw [qc_X11_week, nc_li_v, nc_lt_v, si_rw, l2]
        show nc_bI (nc_Call m_X11_isFarm [cO, .inl (nI g)] w1) _ = _
        rw [sc_isFarm_t (by rw [r1 2 (by decide)]; exact e1) (by omega) b, nc_bI_v, if_neg (by decide), if_neg (show ¬ nI l < 1 by rw [show (1 : Int32) = nI 1 from rfl, nI_ltI (by omega) (by omega)]; omega), if_pos (show nI l ≤ 7 from nI_le q.2 (by decide)), nc_li_v, e7, hmx]
        exact A _ _ rfl (Nat.le_refl _) (by omega)
      · rw [qc_X12_week, nc_lt_v, thr_si, tk, nc_bV_v, mm_isFarm_t (by rw [mS]; exact x3.1.1) (by omega) b, nc_bI_v, if_neg (by decide), k3, sm_isIn, nc_bI_v, tI_t ⟨show (1 : Int32) ≤ nI l from nI_le q.1 (by omega), show nI l ≤ 7 from nI_le q.2 (by decide)⟩, if_pos (by decide), mS, x2.1, sm_greater, nc_bI_v, ← mx_max, hmx]
        exact B _ _ rfl (by omega)
    · refine ⟨-1, w1, w2, ?_, ?_, I2⟩
      · rw [qc_X11_week, nc_li_v, nc_lt_v, si_rw, l2]
        show nc_bI (nc_Call m_X11_isFarm [cO, .inl (nI g)] w1) _ = _
        rw [sc_isFarm_t (by rw [r1 2 (by decide)]; exact e1) (by omega) b, nc_bI_v, if_neg (by decide)]
        by_cases z : l = 0
        · rw [if_pos (show nI l < 1 by rw [z]; decide)]
        · rw [if_neg (show ¬ nI l < 1 by rw [show (1 : Int32) = nI 1 from rfl, nI_ltI (by omega) (by omega)]; omega), if_neg (show ¬ nI l ≤ 7 by rw [show (7 : Int32) = nI 7 from rfl, nI_leI (by omega) (by omega)]; omega)]
      · rw [qc_X12_week, nc_lt_v, thr_si, tk, nc_bV_v, mm_isFarm_t (by rw [mS]; exact x3.1.1) (by omega) b, nc_bI_v, if_neg (by decide), k3, sm_isIn, nc_bI_v, tI_f (fun y => q ⟨by
          have := y.1
          rw [show (1 : Int32) = nI 1 from rfl, nI_leI (by omega) (by omega)] at this
          omega, by
          have := y.2
          rw [show (7 : Int32) = nI 7 from rfl, nI_leI (by omega) (by omega)] at this
          omega⟩), if_neg (fun y => y rfl)]
  · refine ⟨-1, w1, w2, ?_, ?_, I2⟩
    · rw [qc_X11_week, nc_li_v, nc_lt_v, si_rw]
      show nc_bI (nc_Call m_X11_isFarm [cO, .inl x] w1) _ = _
      rw [sc_isFarm_f (by rw [r1 2 (by decide)]; exact e1) (by omega) b, nc_bI_v, if_pos rfl]
    · rw [qc_X12_week, nc_lt_v, thr_si, tk, nc_bV_v, mm_isFarm_f (by rw [mS]; exact x3.1.1) (by omega) b, nc_bI_v, if_pos rfl]
end WK
