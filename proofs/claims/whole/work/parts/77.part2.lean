/-! part, whole. -/
section PQ
variable {w w' : nc_H} {f C N h d a b : Nat} {S : Nat → Int32}
/-- without the hedges s no talk comes from a to b -/
abbrev sep (S : Nat → Int32) (f h a b s : Nat) : Prop := ¬ bq (nI (rch S (nI s) h (f - 1) (2 ^ a))) (nI b)
theorem p64 (h6 : h ≤ 6) : 2 ^ h ≤ 2 ^ 6 := Nat.pow_le_pow_right (by decide) h6
theorem p1 : 0 < 2 ^ h := Nat.pow_pos (by decide)
theorem sep_all (h6 : h ≤ 6) (hf : f ≤ 4) (hb : b < f) (ha : a < f) (hab : a ≠ b) : sep S f h a b (2 ^ h - 1) := by
  have hp : ∀ k m, k < h → hop S (nI (2 ^ h - 1)) k m = m := fun k m hk => by
    unfold hop
    have := p1 (h := h)
    rw [if_pos (show bq (nI (2 ^ h - 1)) (nI k) from by
      rw [← pk_sub (show 1 ≤ 2 ^ h by omega), ← bs_nI h (by omega)]
      exact (allC h (by omega) k (by omega)).mpr hk)]
  have hps : ∀ m, hops S (nI (2 ^ h - 1)) h m = m := fun m => by
    unfold hops
    have : ∀ k i, i + k = h → it (hop S (nI (2 ^ h - 1))) i k m = m := by
      intro k
      induction k with
      | zero => intro i _; rfl
      | succ k ih =>
        intro i hi
        show it (hop S (nI (2 ^ h - 1))) (i + 1) k (hop S (nI (2 ^ h - 1)) i m) = m
        rw [hp i m (by omega), ih (i + 1) (by omega)]
    exact this h 0 (by omega)
  have : ∀ n, rch S (nI (2 ^ h - 1)) h n (2 ^ a) = 2 ^ a := by
    intro n
    induction n with
    | zero => rfl
    | succ n ih =>
      unfold rch at ih ⊢
      rw [it_succ, ih, hps]
  show ¬ bq (nI (rch S (nI (2 ^ h - 1)) h (f - 1) (2 ^ a))) (nI b)
  rw [this, ← bs_nI a (by omega), bq_bs (by omega) (by omega)]
  exact fun q => hab q.symm
def fwC (S : Nat → Int32) (f h a b g x : Nat) : Nat := if pc g < pc x ∧ sep S f h a b g then g else x
def fwM (S : Nat → Int32) (f h a b i x : Nat) : Nat := if pc (2 ^ h - (i + 1)) ≤ pc x ∧ sep S f h a b (2 ^ h - (i + 1)) then 2 ^ h - (i + 1) else x
theorem fwC_lsm (h6 : h ≤ 6) (hs : sep S f h a b (2 ^ h - 1)) : lsm (2 ^ h) (sep S f h a b) (it (fwC S f h a b) 0 (2 ^ h) (2 ^ h - 1)) := by
  have q1 := p1 (h := h)
  have key := it_inv (st := fwC S f h a b) (I := fun i x => x < 2 ^ h ∧ sep S f h a b x ∧ (x < i ∨ x = 2 ^ h - 1) ∧ ∀ g, g < i → sep S f h a b g → pc x < pc g ∨ (pc x = pc g ∧ x ≤ g)) (n := 2 ^ h) ?_ (2 ^ h) 0 (2 ^ h - 1) (by omega) ⟨by omega, hs, Or.inr rfl, fun g hg => absurd hg (Nat.not_lt_zero g)⟩
  · exact ⟨key.1, key.2.1, key.2.2.2⟩
  · rintro i x hi ⟨k1, k2, k3, k4⟩
    unfold fwC
    by_cases z : pc i < pc x ∧ sep S f h a b i
    · rw [if_pos z]
      refine ⟨hi, z.2, by omega, fun g hg hq => ?_⟩
      by_cases e : g = i
      · subst e
        exact Or.inr ⟨rfl, Nat.le_refl _⟩
      · have := k4 g (by omega) hq
        have := z.1
        omega
    · rw [if_neg z]
      refine ⟨k1, k2, by omega, fun g hg hq => ?_⟩
      by_cases e : g = i
      · subst e
        have y : pc x ≤ pc g := Nat.le_of_not_lt (fun y => z ⟨y, hq⟩)
        rcases k3 with k3 | k3
        · omega
        · by_cases e2 : g = 2 ^ h - 1
          · omega
          · have := pc_full h h6 g (by omega)
            rw [← k3] at this
            omega
      · exact k4 g (by omega) hq
theorem fwM_lsm (hs : sep S f h a b (2 ^ h - 1)) : lsm (2 ^ h) (sep S f h a b) (it (fwM S f h a b) 0 (2 ^ h) (2 ^ h - 1)) := by
  have q1 := p1 (h := h)
  have key := it_inv (st := fwM S f h a b) (I := fun i x => x < 2 ^ h ∧ sep S f h a b x ∧ (2 ^ h - i ≤ x ∨ x = 2 ^ h - 1) ∧ ∀ g, 2 ^ h - i ≤ g → g < 2 ^ h → sep S f h a b g → pc x < pc g ∨ (pc x = pc g ∧ x ≤ g)) (n := 2 ^ h) ?_ (2 ^ h) 0 (2 ^ h - 1) (by omega) ⟨by omega, hs, Or.inr rfl, fun g hg hg2 => absurd hg2 (by omega)⟩
  · exact ⟨key.1, key.2.1, fun g hg => key.2.2.2 g (by omega) hg⟩
  · rintro i x hi ⟨k1, k2, k3, k4⟩
    unfold fwM
    by_cases z : pc (2 ^ h - (i + 1)) ≤ pc x ∧ sep S f h a b (2 ^ h - (i + 1))
    · rw [if_pos z]
      refine ⟨by omega, z.2, by omega, fun g hg hg2 hq => ?_⟩
      by_cases e : g = 2 ^ h - (i + 1)
      · subst e
        exact Or.inr ⟨rfl, Nat.le_refl _⟩
      · have := k4 g (by omega) hg2 hq
        have := z.1
        omega
    · rw [if_neg z]
      refine ⟨k1, k2, by omega, fun g hg hg2 hq => ?_⟩
      by_cases e : g = 2 ^ h - (i + 1)
      · subst e
        exact Or.inl (Nat.lt_of_not_le (fun y => z ⟨y, hq⟩))
      · exact k4 g (by omega) hg2 hq
theorem sd_fewest (hD : DR w 0 S f C N h) (hh : hdg S f h) (ha : a < f) : nc_Call m_X2_fewestBetween [.inr (.inr (2, 0)), .inl (nI a), .inl (nI b)] w = some (some (.inl (nI (it (fwC S f h a b) 0 (2 ^ h) (2 ^ h - 1)))), w) := by
  have h6 : h ≤ 6 := hD.1.2.2.2.2.2.2.2
  have e4 : w.1 2 0 4 = nI h := hD.2.1.2.2.2.1
  have q1 := p1 (h := h)
  have q64 := p64 h6
  have b6 : (1 <<< (nI h &&& 31) : Int32) = nI (2 ^ h) := bs_nI h (by omega)
  have b7 : nI (2 ^ h) - 1 = nI (2 ^ h - 1) := pk_sub (b := 1) (by omega)
  rw [qc_X2_fewestBetween, e4, nc_li_v, b6, b7]
  have key := it_loop (R := fun g (x : Nat) => nc_Run m_X2_fewestBetween 12 [some (.inr (.inr (2, 0))), some (.inl (nI a)), some (.inl (nI b)), some (.inl (nI x)), some (.inl (nI g))] [] w) (st := fwC S f h a b) (I := fun _ x => x < 2 ^ h) (n := 2 ^ h) (out := fun x => some (some (.inl (nI x)), w)) ?_ ?_ (2 ^ h) 0 (2 ^ h - 1) (by omega) (by omega)
  · exact key
  · intro g x hg hx
    have pg := pc_le g
    have px := pc_le x
    refine ⟨?_, ?_⟩
    · show nc_Run m_X2_fewestBetween 12 _ _ w = nc_Run m_X2_fewestBetween 12 _ _ w
      rw [qr_X2_fewestBetween_12, e4, b6, if_neg (nI_ge hg (by omega)), s_bitCount w (by omega), nc_bI_v, s_bitCount w (by omega), nc_bI_v]
      unfold fwC
      by_cases z : pc g < pc x
      · rw [if_neg (nI_ge z (by omega)), sd_comesTo hD hh ha, nc_bI_v]
        by_cases y : sep S f h a b g
        · rw [if_neg (fun q => q (tI_eq0.mpr y)), nc_li_v, nI_1, if_pos ⟨z, y⟩]
        · rw [if_pos (tI_ne.mpr (Decidable.not_not.mp y)), nc_li_v, nI_1, if_neg (fun q => y q.2)]
      · rw [if_pos (nI_le (by omega) (by omega)), nc_li_v, nI_1, if_neg (fun q => z q.1)]
    · unfold fwC
      split <;> omega
  · intro x _
    show nc_Run m_X2_fewestBetween 12 _ _ w = _
    rw [qr_X2_fewestBetween_12, e4, b6, if_pos (nI_le (Nat.le_refl _) (by omega))]
theorem sm_part (hs : shp (w.1 874 0) f C N h) (hS : w.1 874 0 = S) (hh : hdg S f h) (ha : a < f) (h0 : 1 ≤ f) : nc_Run m_X12_part 45 [some mO, some (.inl (nI a)), some (.inl (nI b)), some (.inl (nI (2 ^ h - 1))), some (.inl (nI (2 ^ h - 1))), some (.inl (nI (2 ^ h) + Int32.ofInt (-1)))] [] w = some (some (.inl (nI (pc (it (fwM S f h a b) 0 (2 ^ h) (2 ^ h - 1))))), row w 12 0 (upd (upd (w.1 12 0) 30 1) 29 (nI (it (fwM S f h a b) 0 (2 ^ h) (2 ^ h - 1))))) := by
  have hf : f ≤ 4 := hs.2.2.2.2.1
  have h6 : h ≤ 6 := hs.2.2.2.2.2.2.2
  have q1 := p1 (h := h)
  have q64 := p64 h6
  have key := it_loop (R := fun i (x : Nat) => nc_Run m_X12_part 45 [some mO, some (.inl (nI a)), some (.inl (nI b)), some (.inl (nI (2 ^ h - 1))), some (.inl (nI x)), some (.inl (nI (2 ^ h - i) + Int32.ofInt (-1)))] [] w) (st := fwM S f h a b) (I := fun _ x => x < 2 ^ h) (n := 2 ^ h) (out := fun x => some (some (.inl (nI (pc x))), row w 12 0 (upd (upd (w.1 12 0) 30 1) 29 (nI x)))) ?_ ?_ (2 ^ h) 0 (2 ^ h - 1) (by omega) (by omega)
  · exact key
  · intro i x hi hx
    have pg := pc_le (2 ^ h - (i + 1))
    have px := pc_le x
    refine ⟨?_, ?_⟩
    · show nc_Run m_X12_part 45 _ _ w = nc_Run m_X12_part 45 _ _ w
      have e : nI (2 ^ h - i) + Int32.ofInt (-1) = nI (2 ^ h - (i + 1)) := by
        rw [show 2 ^ h - i = 2 ^ h - (i + 1) + 1 by omega, show Int32.ofInt (-1) = -1 by decide, pk_m1]
      rw [e, qr_X12_part_45, if_neg (nI_pos (by omega)), sm_bits w (by omega), nc_bI_v, sm_bits w (by omega), nc_bI_v]
      unfold fwM
      by_cases z : pc (2 ^ h - (i + 1)) ≤ pc x
      · have cm := sm_comes (w := w) (S := S) (f := f) (h := h) (a := a) (b := b) (gone := nI (2 ^ h - (i + 1))) (D := nI (2 ^ h - 1) &&& (nI (2 ^ h - (i + 1)) ^^^ (-1))) hs hS hh ha (fun k hk => by
          rw [bq_and (by omega), bq_not (by omega), ← pk_sub (show 1 ≤ 2 ^ h by omega), ← bs_nI h (by omega)]
          exact ⟨fun q => q.2, fun q => ⟨(allC h (by omega) k (by omega)).mpr hk, q⟩⟩)
        rw [if_neg (nI_nlt z (by omega)), cm, nc_bI_v, rch_4 hh hf h0 ha]
        by_cases y : sep S f h a b (2 ^ h - (i + 1))
        · rw [if_neg (fun q => q (tI_eq0.mpr y)), nc_li_v, if_pos ⟨z, y⟩]
        · rw [if_pos (tI_ne.mpr (Decidable.not_not.mp y)), nc_li_v, if_neg (fun q => y q.2)]
      · rw [if_pos (nI_lt (by omega) (by omega)), nc_li_v, if_neg (fun q => z q.1)]
    · unfold fwM
      split <;> omega
  · intro x hx
    show nc_Run m_X12_part 45 _ _ w = _
    rw [Nat.sub_self, qr_X12_part_45, if_pos (by decide +kernel), nc_lt_v, nc_lt_v]
    simp only [si_rw, row_s, row_r]
    rw [sm_bits _ (by omega), nc_bI_v]
theorem op_part (hI : Inv w) (x y : Int32) : Op w (nc_Call m_X11_part [cO, .inl x, .inl y]) (nc_Call m_X12_part [mO, .inl x, .inl y]) := by
  have hI0 := hI
  obtain ⟨⟨f, C, N, h, d, hW⟩, hM, c3, c4, c5, c6, c7, c8⟩ := hI
  have hW' := hW
  obtain ⟨⟨x1, x2, x3, x4, x5, x6⟩, x7⟩ := hW'
  have hf : f ≤ 4 := x3.1.2.2.2.2.1
  have h6 : h ≤ 6 := x3.1.2.2.2.2.2.2.2
  have e1 : w.1 2 0 1 = nI f := x3.2.1.1
  have m1 : (thr w 0).1 874 0 0 = nI f := by rw [thr_874]; exact x3.1.1
  by_cases b : rng x f
  · by_cases b2 : rng y f
    · have b' := b
      have b2' := b2
      obtain ⟨a, a1, rfl⟩ := b'
      obtain ⟨g, g1, rfl⟩ := b2'
      by_cases e : a = g
      · subst e
        refine rd hI0 ⟨-1, ?_, ?_⟩
        · rw [qc_X11_part, sc_isFarm_t e1 (by omega) b, nc_bI_v, if_neg (by decide), sc_isFarm_t e1 (by omega) b, nc_bI_v, if_neg (by decide), if_neg (fun q => q rfl)]
        · rw [qc_X12_part, nc_lt_v, thr_si, mm_isFarm_t m1 (by omega) b, nc_bI_v, if_neg (by decide), mm_isFarm_t m1 (by omega) b, nc_bI_v, if_neg (by decide), if_neg (fun q => q rfl)]
      · have ne : nI a ≠ nI g := fun q => e ((nI_eq (by omega) (by omega)).mp q)
        have q1 := p1 (h := h)
        have q64 := p64 h6
        have sa := sep_all (S := w.1 874 0) h6 hf g1 a1 e
        have lA := fwC_lsm h6 sa
        have lB := fwM_lsm sa
        have AB := lsm_eq lB lA
        have F := sd_fewest (w := w) (b := g) x3 x1.2.2.2.2.1 a1
        generalize it (fwC (w.1 874 0) f h a g) 0 (2 ^ h) (2 ^ h - 1) = A at F lA AB
        have A64 := lA.1
        let w1 : nc_H := row w 11 0 (upd (w.1 11 0) 15 (nI A))
        have s1 : (thr w1 0).1 874 0 = w.1 874 0 := by
          rw [thr_874]
          show (row _ 11 0 _).1 874 0 = _
          rw [row_t (by decide)]
        have P := sm_part (w := thr w1 0) (S := w.1 874 0) (f := f) (C := C) (N := N) (h := h) (a := a) (b := g) (by rw [s1]; exact x3.1) s1 x1.2.2.2.2.1 a1 (by omega)
        rw [AB] at P
        have b6 : (1 <<< (nI h &&& 31) : Int32) = nI (2 ^ h) := bs_nI h (by omega)
        have b7 : nI (2 ^ h) - 1 = nI (2 ^ h - 1) := pk_sub (b := 1) (by omega)
        have b8 : nI (2 ^ h) + Int32.ofInt (-1) = nI (2 ^ h - 1) := by
          rw [show nI (2 ^ h) = nI (2 ^ h - 1 + 1) by rw [show 2 ^ h - 1 + 1 = 2 ^ h by omega], show Int32.ofInt (-1) = -1 by decide, pk_m1]
        rw [b8] at P
        generalize hv : row (thr w1 0) 12 0 (upd (upd ((thr w1 0).1 12 0) 30 1) 29 (nI A)) = v2 at P
        have r1 : ∀ t a, ¬ (a = 0 ∧ (t = 11 ∨ t = 12)) → v2.1 t a = w.1 t a := fun t a q => by
          rw [← hv, row_n (by omega), row_n (by omega)]
          exact row_n (by omega)
        have r2 : v2.2 = w.2 := by rw [← hv]; rfl
        have r3 : ∀ k, k ≠ 0 → k ≠ 29 → k ≠ 30 → v2.1 12 0 k = w.1 12 0 k := fun k k0 k1 k2 => by
          rw [← hv, row_s, upd_n k1, upd_n k2, thr_k k0]
          show (row _ 11 0 _).1 12 0 k = _
          rw [row_t (by decide)]
        refine ⟨nI (pc A), w1, v2, ?_, ?_, ?_⟩
        · rw [qc_X11_part, sc_isFarm_t e1 (by omega) b, nc_bI_v, if_neg (by decide), sc_isFarm_t e1 (by omega) b2, nc_bI_v, if_neg (by decide), if_pos ne, F, nc_bI_v, nc_lt_v, si_rw, row_s, upd_s, s_bitCount _ (by omega), nc_bI_v]
        · rw [qc_X12_part, nc_lt_v, thr_si, mm_isFarm_t (by rw [s1]; exact x3.1.1) (by omega) b, nc_bI_v, if_neg (by decide), mm_isFarm_t (by rw [s1]; exact x3.1.1) (by omega) b2, nc_bI_v, if_neg (by decide), if_pos ne, s1, x3.1.2.2.2.1, b6, b7, nc_li_v]
          exact P
        · have B := Inv_big (w' := v2) ⟨⟨f, C, N, h, d, hW⟩, hM⟩ (fun t a ht => r1 t a (by unfold sD sL sS sM at ht; omega)) (fun _ _ _ => by rw [r2]) (r3 24 (by decide) (by decide) (by decide))
          refine ⟨B.1, B.2, CH_eq c3 (fun k hk => r3 k (by omega) (by omega) (by omega)) (r1 1 0 (by omega)), PL_eq c4 (r3 28 (by decide) (by decide) (by decide)) (r1 8 0 (by omega)) (r1 616 0 (by omega)) (r1 895 0 (by omega)), Or.inr ⟨?_, ?_⟩, TP_eq c6 (fun k hk => r3 k (by omega) (by omega) (by omega)) (r1 10 0 (by omega)) (r1 740 0 (by omega)) (r1 869 0 (by omega)), BK_eq c7 (r3 38 (by decide) (by decide) (by decide)) (r1 0 0 (by omega)) (r1 905 0 (by omega)), TW_eq c8 (by rw [r2]) (by rw [r2])⟩
          · rw [← hv, row_s, upd_n (by decide), upd_s]
          · rw [← hv, row_t (by decide), row_s, upd_s, thr_t (by decide)]
            show (row _ 11 0 _).1 11 0 15 = _
            rw [row_s, upd_s]
    · refine rd hI0 ⟨-1, ?_, ?_⟩
      · rw [qc_X11_part, sc_isFarm_t e1 (by omega) b, nc_bI_v, if_neg (by decide), sc_isFarm_f e1 (by omega) b2, nc_bI_v, if_pos rfl]
      · rw [qc_X12_part, nc_lt_v, thr_si, mm_isFarm_t m1 (by omega) b, nc_bI_v, if_neg (by decide), mm_isFarm_f m1 (by omega) b2, nc_bI_v, if_pos rfl]
  · refine rd hI0 ⟨-1, ?_, ?_⟩
    · rw [qc_X11_part, sc_isFarm_f e1 (by omega) b, nc_bI_v, if_pos rfl]
    · rw [qc_X12_part, nc_lt_v, thr_si, mm_isFarm_f m1 (by omega) b, nc_bI_v, if_pos rfl]
end PQ
