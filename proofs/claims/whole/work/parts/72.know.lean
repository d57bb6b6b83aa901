/-! allKnow. -/
section AK
variable {w w' v : nc_H} {f C N h d n : Nat} {S : Nat → Int32}
/-- the first i from which on P says so, up to r more of them -/
def fk (P : Nat → Prop) [DecidablePred P] (d : Nat) : Nat → Nat → Int32
  | 0, _ => -1
  | r + 1, i => if P i then nI (d + i) else fk P d r (i + 1)
theorem allC : ∀ C, C ≤ 8 → ∀ c, c < 32 → (bq ((1 <<< (nI C &&& 31)) - 1) (nI c) ↔ c < C) := by decide +kernel
theorem kbs_all (hC : C ≤ 8) : kbs S C n = (1 <<< (nI C &&& 31)) - 1 ↔ ∀ c, c < C → kn S c n := by
  have kb : ∀ c, c < 32 → (bq (kbs S C n) (nI c) ↔ c < C ∧ kn S c n) := fun c hc => by
    unfold kbs
    rw [it_bits (P := fun i => kn S i n) (N := C) (by omega) C 0 0 (by omega) c hc]
    exact ⟨fun q => q.elim (fun q => absurd q (bq_z hc)) (fun q => q.2), fun q => Or.inr ⟨by omega, q⟩⟩
  constructor
  · intro e c hc
    have := (kb c (by omega)).mp (by rw [e]; exact (allC C hC c (by omega)).mpr hc)
    exact this.2
  · intro e
    refine bq_ext (fun c hc => ?_)
    rw [kb c hc, allC C hC c hc]
    exact ⟨fun q => q.1, fun q => ⟨q, e c q⟩⟩
def alk (S : Nat → Int32) (n C : Nat) : Int32 := it (fun c (x : Int32) => if x = 0 then 0 else tI (kn S c n)) 0 C 1
theorem alk_eq : ∀ (k i : Nat) (x : Int32), i + k = C → (it (fun c (x : Int32) => if x = 0 then 0 else tI (kn S c n)) i k x = 0 ↔ x = 0 ∨ ∃ c, i ≤ c ∧ c < C ∧ ¬ kn S c n)
  | 0, i, x, h => by
    show x = 0 ↔ _
    exact ⟨Or.inl, fun q => q.elim id (fun ⟨c, q1, q2, _⟩ => absurd q1 (by omega))⟩
  | k + 1, i, x, h => by
    show it (fun c (x : Int32) => if x = 0 then 0 else tI (kn S c n)) (i + 1) k (if x = 0 then 0 else tI (kn S i n)) = 0 ↔ _
    rw [alk_eq k (i + 1) _ (by omega)]
    by_cases q : x = 0
    · rw [if_pos q]
      exact ⟨fun _ => Or.inl q, fun _ => Or.inl rfl⟩
    · rw [if_neg q, tI_eq0]
      constructor
      · rintro (z | ⟨c, z1, z2, z3⟩)
        · exact Or.inr ⟨i, Nat.le_refl _, by omega, z⟩
        · exact Or.inr ⟨c, by omega, z2, z3⟩
      · rintro (z | ⟨c, z1, z2, z3⟩)
        · exact absurd z q
        · by_cases e : c = i
          · subst e
            exact Or.inl z3
          · exact Or.inr ⟨c, by omega, z2, z3⟩
theorem alk_iff : alk S n C = 0 ↔ ¬ ∀ c, c < C → kn S c n := by
  unfold alk
  rw [alk_eq (C := C) C 0 1 (by omega)]
  constructor
  · rintro (z | ⟨c, z1, z2, z3⟩)
    · exact absurd z (by decide)
    · exact fun q => z3 (q c z2)
  · intro q
    refine Or.inr ?_
    refine Classical.byContradiction (fun z => q (fun c hc => Classical.byContradiction (fun y => z ⟨c, by omega, hc, y⟩)))
theorem op_allKnow (hI : Inv w) (x : Int32) : Op w (nc_Call m_X11_allKnow [cO, .inl x]) (nc_Call m_X12_allKnow [mO, .inl x]) := by
  have hI0 := hI
  obtain ⟨⟨f, C, N, h, d, hW⟩, -⟩ := hI
  obtain ⟨⟨x1, x2, x3, x4, x5, x6⟩, x7⟩ := hW
  have hf : f ≤ 4 := x3.1.2.2.2.2.1
  have hC : C ≤ 8 := x3.1.2.2.2.2.2.1
  have hN : N ≤ 10 := x3.1.2.2.2.2.2.2.1
  have hd4 := x2.2.1
  have e3 : w.1 2 0 3 = nI N := x3.2.1.2.2.1
  have e2 : w.1 2 0 2 = nI C := x3.2.1.2.1
  have m3 : w.1 874 0 2 = nI N := x3.1.2.2.1
  have m2 : w.1 874 0 1 = nI C := x3.1.2.1
  by_cases b : rng x N
  · by_cases h0 : C = 0
    · refine rd hI0 ⟨-1, ?_, ?_⟩
      · rw [qc_X11_allKnow, sc_isNews_t e3 (by omega) b, nc_bI_v, if_neg (by decide), e2, if_neg (fun q => q (by rw [h0]; rfl))]
      · rw [qc_X12_allKnow, nc_lt_v, thr_si, mm_isNews_t (by rw [thr_874]; exact m3) (by omega) b, nc_bI_v, if_neg (by decide), thr_874, m2, if_neg (fun q => q (by rw [h0]; rfl))]
    · have b' := b
      obtain ⟨n, n1, rfl⟩ := b'
      have A : ∀ (P : Nat → Prop) [DecidablePred P], (∀ i, P i ↔ ∀ c, c < C → kn (dayN (w.1 874 0) d f C N h (i + 1)) c n) → Op w (nc_Call m_X11_allKnow [cO, .inl (nI n)]) (nc_Call m_X12_allKnow [mO, .inl (nI n)]) := by
        intro P _ hP
        obtain ⟨w1, a1, a2, a3⟩ := sl_copyFrom (w := w) (a := 1) (b := 0) (by omega)
        have L1 : LK w1 1 (w.1 874 0) C N := LK_cp hC hN a3 x5.1
        have D1 : DR w1 0 (w.1 874 0) f C N h := DR_eq x3 (fun t ht => a2.2 t 0 (by unfold lC; omega)) (fun _ _ => rfl)
        have K : ∃ w2, nc_Run m_X11_allKnow 33 [some cO, some (.inl (nI n)), some (.inl (nI 0)), none] [] w1 = some (some (.inl (fk P d (min 200 (400 - d)) 0)), w2) ∧ eqO (lQ 1) w1 w2 := by
          refine lp (R := fun i (v : nc_H) => nc_Run m_X11_allKnow 33 [some cO, some (.inl (nI n)), some (.inl (nI i)), none] [] v) (I := fun i v => i ≤ 400 - d ∧ eqO (lQ 1) w1 v ∧ LK v 1 (dayN (w.1 874 0) d f C N h i) C N ∧ fk P d (min 200 (400 - d)) 0 = fk P d (min 200 (400 - d) - i) i) (n := 200) (Q := fun r => ∃ w2, r = some (some (.inl (fk P d (min 200 (400 - d)) 0)), w2) ∧ eqO (lQ 1) w1 w2) ?_ ?_ 200 0 w1 (by omega) ⟨by omega, eqO.rf, L1, rfl⟩
          · rintro i v hi ⟨q0, q1, q2, q3⟩
            have o2 := dayN_lok x1 x2 i (by omega)
            have e7 : v.1 7 1 1 = nI (d + i) := q2.1.1.1.trans o2.1
            by_cases y : d + i = 400
            · left
              show ∃ w2, nc_Run m_X11_allKnow 33 _ _ v = _ ∧ _
              rw [qr_X11_allKnow_33, if_neg (show ¬ (200 : Int32) ≤ nI i from nI_ge hi (by decide)), e7, if_pos ((lit400 (by omega)).mpr (by omega)), q3, show min 200 (400 - d) - i = 0 by omega]
              exact ⟨v, rfl, q1⟩
            · have D : DR v (nc_ld 1) (dayN (w.1 874 0) d f C N h i) f C N h := DR_eq D1 (fun t ht => q1.2 t 0 (by unfold lQ; omega)) (fun k hk => dayN_lo x1 hk i)
              obtain ⟨w3, w4, b1, b2, b3, b4⟩ := sl_tt D q2 (dayN_dok x1 i) o2
              have b4' : LK w4 1 (dayN (w.1 874 0) d f C N h (i + 1)) C N := b4
              have q5 := sc_cowsWith (w := w4) (t := 554) (a := 1) (n := nI n) hC (by rw [b3.2 2 0 (by unfold lQ; omega), q1.2 2 0 (by unfold lQ; omega), a2.2 2 0 (by unfold lC; omega)]; exact e2) rfl rfl
              rw [it_cong (s2 := fun c (x : Int32) => x ||| (if kn (dayN (w.1 874 0) d f C N h (i + 1)) c n then bs c else 0)) (n := C) (fun j z hj => by
                rw [b4'.2.2.2.1 j hj]
                have : bq (kns (dayN (w.1 874 0) d f C N h (i + 1)) N j) (nI n) ↔ kn (dayN (w.1 874 0) d f C N h (i + 1)) j n := by
                  rw [bq_kns hN (by omega)]
                  exact ⟨fun q => q.2, fun q => ⟨n1, q⟩⟩
                simp only [this]) C 0 0 (by omega)] at q5
              have q6 : nc_Call m_X11_cowsWith [cO, .inr (.inr (554, 1)), .inl (nI n)] w4 = some (some (.inl (kbs (dayN (w.1 874 0) d f C N h (i + 1)) C n)), w4) := q5
              have R : nc_Run m_X11_allKnow 33 [some cO, some (.inl (nI n)), some (.inl (nI i)), none] [] v = if kbs (dayN (w.1 874 0) d f C N h (i + 1)) C n ≠ (1 <<< (nI C &&& 31)) - 1 then nc_Run m_X11_allKnow 33 [some cO, some (.inl (nI n)), some (.inl (nI (i + 1))), none] [] w4 else some (some (.inl (nI (d + i))), w4) := by
                rw [qr_X11_allKnow_33, if_neg (show ¬ (200 : Int32) ≤ nI i from nI_ge hi (by decide)), e7, if_neg (fun q => by rw [lit400 (by omega)] at q; omega), nc_li_v, b1, nc_bV_v, b2, nc_bV_v, q6, nc_bI_v, qc_X2_allCows, nc_bI_v, b3.2 2 0 (by unfold lQ; omega), q1.2 2 0 (by unfold lQ; omega), a2.2 2 0 (by unfold lC; omega), e2, nc_li_v, nI_1]
              have q7 : fk P d (min 200 (400 - d) - i) i = if P i then nI (d + i) else fk P d (min 200 (400 - d) - (i + 1)) (i + 1) := by
                rw [show min 200 (400 - d) - i = (min 200 (400 - d) - (i + 1)) + 1 by omega]
                rfl
              by_cases z : P i
              · left
                show ∃ w2, nc_Run m_X11_allKnow 33 _ _ v = _ ∧ _
                rw [R, if_neg (fun q => q ((kbs_all hC).mpr ((hP i).mp z))), q3, q7, if_pos z]
                exact ⟨w4, rfl, q1.tr b3⟩
              · right
                refine ⟨w4, ?_, by omega, q1.tr b3, b4', by rw [q3, q7, if_neg z]⟩
                show nc_Run m_X11_allKnow 33 _ _ v = _
                rw [R, if_pos (fun q => z ((hP i).mpr ((kbs_all hC).mp q)))]
          · rintro v ⟨q0, q1, q2, q3⟩
            show ∃ w2, nc_Run m_X11_allKnow 33 _ _ v = _ ∧ _
            rw [qr_X11_allKnow_33, if_pos (by decide +kernel), q3, show min 200 (400 - d) - 200 = 0 by omega]
            exact ⟨v, rfl, q1⟩
        obtain ⟨w2, k1, k2⟩ := K
        have s1 : (thr w2 0).1 874 0 = w.1 874 0 := by rw [thr_874, k2.2 874 0 (by unfold lQ; omega), a2.2 874 0 (by unfold lC; omega)]
        let v1 : nc_H := row (thr w2 0) 891 0 (fun k => if k < 256 then (thr w2 0).1 874 0 (76 + k) else (thr w2 0).1 891 0 k)
        have s2 : v1.1 874 0 = w.1 874 0 := by
          show (row _ 891 0 _).1 874 0 = _
          rw [row_t (by decide), s1]
        have hb : ∀ k, k < 256 → v1.1 891 0 k = w.1 874 0 (76 + k) := fun k hk => by
          show (row _ 891 0 _).1 891 0 k = _
          rw [row_s, if_pos hk, s1]
        have bk : ∀ (v : nc_H) (i : Nat), eqO mD v1 v → v.1 874 0 = dayN (w.1 874 0) d f C N h i → nc_Call m_X12_back [mO] v = some (none, row v 874 0 (w.1 874 0)) := fun v i E e => sm_back (fun k hk => by rw [E.2 891 0 (by unfold mD; omega)]; exact hb k hk) (fun k hk => by
          rw [e]
          rcases hk with hk | hk
          · exact dayN_lo x1 hk _
          · exact dayN_hi x1 hk _)
        have B : ∃ w3, nc_Run m_X12_allKnow 32 [some mO, some (.inl (nI n)), some (.inl (-1)), some (.inl (nI 0)), none, none] [] v1 = some (some (.inl (fk P d (min 200 (400 - d)) 0)), row w3 874 0 (w.1 874 0)) ∧ eqO mD v1 w3 := by
          refine lp (R := fun i (v : nc_H) => nc_Run m_X12_allKnow 32 [some mO, some (.inl (nI n)), some (.inl (-1)), some (.inl (nI i)), none, none] [] v) (I := fun i v => i ≤ 400 - d ∧ eqO mD v1 v ∧ v.1 874 0 = dayN (w.1 874 0) d f C N h i ∧ fk P d (min 200 (400 - d)) 0 = fk P d (min 200 (400 - d) - i) i) (n := 200) (Q := fun r => ∃ w3, r = some (some (.inl (fk P d (min 200 (400 - d)) 0)), row w3 874 0 (w.1 874 0)) ∧ eqO mD v1 w3) ?_ ?_ 200 0 v1 (by omega) ⟨by omega, eqO.rf, s2, rfl⟩
          · rintro i v hi ⟨q0, q1, q2, q3⟩
            have o2 := dayN_lok x1 x2 i (by omega)
            obtain ⟨w4, c1, c2, c3⟩ := sm_goesOn (w := v) (n := 1) q2 (dayN_dok x1 i) o2 (by omega)
            by_cases y : d + i = 400
            · left
              rw [show min 1 (400 - (d + i)) = 0 by omega] at c1 c3
              show ∃ w3, nc_Run m_X12_allKnow 32 _ _ v = _ ∧ _
              rw [qr_X12_allKnow_32, if_neg (show ¬ (200 : Int32) ≤ nI i from nI_ge hi (by decide)), if_neg (by decide), show (1 : Int32) = nI 1 from rfl, c1, nc_bI_v, if_pos (by decide), bk w4 i (q1.tr c2) c3, nc_bV_v, q3, show min 200 (400 - d) - i = 0 by omega]
              exact ⟨w4, rfl, q1.tr c2⟩
            · rw [show min 1 (400 - (d + i)) = 1 by omega] at c1 c3
              have c3' : w4.1 874 0 = dayN (w.1 874 0) d f C N h (i + 1) := c3
              have o3 := dayN_lok x1 x2 (i + 1) (by omega)
              have q7 : fk P d (min 200 (400 - d) - i) i = if P i then nI (d + i) else fk P d (min 200 (400 - d) - (i + 1)) (i + 1) := by
                rw [show min 200 (400 - d) - i = (min 200 (400 - d) - (i + 1)) + 1 by omega]
                rfl
              have c4 : w4.1 874 0 1 = nI C := by rw [c3']; exact (dayN_dok x1 (i + 1)).1.2.1
              have R : nc_Run m_X12_allKnow 32 [some mO, some (.inl (nI n)), some (.inl (-1)), some (.inl (nI i)), none, none] [] v = nc_Run m_X12_allKnow 58 [some mO, some (.inl (nI n)), some (.inl (-1)), some (.inl (nI i)), some (.inl (alk (dayN (w.1 874 0) d f C N h (i + 1)) n C)), some (.inl (nI C))] [] w4 := by
                rw [qr_X12_allKnow_32, if_neg (show ¬ (200 : Int32) ≤ nI i from nI_ge hi (by decide)), if_neg (by decide), show (1 : Int32) = nI 1 from rfl, c1, nc_bI_v, if_neg (fun q => q rfl)]
                have key := it_loop (R := fun j (z : Int32) => nc_Run m_X12_allKnow 58 [some mO, some (.inl (nI n)), some (.inl (-1)), some (.inl (nI i)), some (.inl z), some (.inl (nI j))] [] w4) (st := fun c (x : Int32) => if x = 0 then 0 else tI (kn (dayN (w.1 874 0) d f C N h (i + 1)) c n)) (I := fun _ _ => True) (n := C) (out := fun z => nc_Run m_X12_allKnow 58 [some mO, some (.inl (nI n)), some (.inl (-1)), some (.inl (nI i)), some (.inl z), some (.inl (nI C))] [] w4) ?_ (fun _ _ => rfl) C 0 1 (by omega) trivial
                · exact key
                · intro j z hj _
                  refine ⟨?_, trivial⟩
                  show nc_Run m_X12_allKnow 58 _ _ _ = nc_Run m_X12_allKnow 58 _ _ _
                  rw [qr_X12_allKnow_58, c4, if_neg (nI_ge hj (by omega))]
                  by_cases z0 : z = 0
                  · rw [if_pos z0, nc_li_v, nI_1, if_pos z0]
                  · rw [if_neg z0, sm_knows w4 (by omega) (by omega), nc_bI_v, c3', if_neg z0]
                    by_cases r : kn (dayN (w.1 874 0) d f C N h (i + 1)) j n
                    · rw [if_neg (tI_ne.mpr r), nc_li_v, nI_1, tI_t r]
                    · rw [if_pos (tI_eq0.mpr r), nc_li_v, nI_1, tI_f r]
              by_cases z : P i
              · left
                show ∃ w3, nc_Run m_X12_allKnow 32 _ _ v = _ ∧ _
                rw [R, qr_X12_allKnow_58, c4, if_pos (nI_le (Nat.le_refl _) (by omega)), if_neg (fun q => alk_iff.mp q ((hP i).mp z)), nc_li_v, nc_li_v, c3', o3.1, show d + (i + 1) = (d + i) + 1 by omega, nI_pred, nI_1, q3, q7, if_pos z, qr_X12_allKnow_32]
                by_cases y2 : (200 : Int32) ≤ nI (i + 1)
                · rw [if_pos y2, bk w4 (i + 1) (q1.tr c2) c3', nc_bV_v]
                  exact ⟨w4, rfl, q1.tr c2⟩
                · rw [if_neg y2, if_pos (nI_pos' (by omega)), bk w4 (i + 1) (q1.tr c2) c3', nc_bV_v]
                  exact ⟨w4, rfl, q1.tr c2⟩
              · right
                refine ⟨w4, ?_, by omega, q1.tr c2, c3', by rw [q3, q7, if_neg z]⟩
                show nc_Run m_X12_allKnow 32 _ _ v = nc_Run m_X12_allKnow 32 _ _ w4
                rw [R, qr_X12_allKnow_58, c4, if_pos (nI_le (Nat.le_refl _) (by omega)), if_pos (alk_iff.mpr (fun q => z ((hP i).mpr q))), nc_li_v, nI_1]
          · rintro v ⟨q0, q1, q2, q3⟩
            show ∃ w3, nc_Run m_X12_allKnow 32 _ _ v = _ ∧ _
            rw [qr_X12_allKnow_32, if_pos (by decide +kernel), bk v 200 q1 q2, nc_bV_v, q3, show min 200 (400 - d) - 200 = 0 by omega]
            exact ⟨v, rfl, q1⟩
        obtain ⟨w3, b1, b2⟩ := B
        refine ⟨fk P d (min 200 (400 - d)) 0, w2, row w3 874 0 (w.1 874 0), ?_, ?_, ?_⟩
        · rw [qc_X11_allKnow, sc_isNews_t e3 (by omega) b, nc_bI_v, if_neg (by decide), e2, if_pos (nI_ne0 (by omega) (by omega)), a1, nc_bV_v]
          exact k1
        · rw [qc_X12_allKnow, nc_lt_v, thr_si, mm_isNews_t (by rw [s1]; exact m3) (by omega) b, nc_bI_v, if_neg (by decide), s1, m2, if_pos (nI_ne0 (by omega) (by omega)), sm_tries, nc_bV_v]
          exact b1
        · refine Inv_try hI0 ⟨b2.1.trans (k2.1.trans a2.1), fun t a q => ?_⟩ row_s (fun k hk => ?_)
          · unfold jT at q
            rw [row_n (by omega), b2.2 t a (by unfold mD; omega)]
            show (row _ 891 0 _).1 t a = _
            rw [row_n (by omega), row_n (by omega), k2.2 t a (by unfold lQ; omega), a2.2 t a (by unfold lC; omega)]
          · unfold k12 at hk
            rw [row_t (by decide), b2.2 12 0 (by unfold mD; omega)]
            show (row _ 891 0 _).1 12 0 k = _
            rw [row_t (by decide), thr_k (by omega), k2.2 12 0 (by unfold lQ; omega), a2.2 12 0 (by unfold lC; omega)]
      exact A (fun i => kbs (dayN (w.1 874 0) d f C N h (i + 1)) C n = (1 <<< (nI C &&& 31)) - 1) (fun i => kbs_all hC)
  · refine rd hI0 ⟨-1, ?_, ?_⟩
    · rw [qc_X11_allKnow, sc_isNews_f e3 (by omega) b, nc_bI_v, if_pos rfl]
    · rw [qc_X12_allKnow, nc_lt_v, thr_si, mm_isNews_f (by rw [thr_874]; exact m3) (by omega) b, nc_bI_v, if_pos rfl]
end AK
