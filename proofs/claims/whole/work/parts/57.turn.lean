/-! THE TURN OF A DAY, of the class. -/
section TU
variable {w : nc_H} {a c d f C N h i : Nat} {S : Nat → Int32}
theorem shr_0 {x : Int32} {j n : Nat} (hj : j < 32) (h0 : x >>> (nI j &&& 31) = 0) (hn : j ≤ n) (h32 : n < 32) : ¬ bq x (nI n) := by
  intro q
  rw [bq_bt h32] at q
  have := b_sshr j hj x (i := n - j) (by omega)
  have e : j + (n - j) = n := by omega
  rw [h0, b_0, e, if_pos h32, q] at this
  exact Bool.noConfusion this
theorem sl_forget (hN : N ≤ 10) (hc : c < 8) (e3 : w.1 2 (nc_ld a) 3 = nI N) (hK : ∀ n, N ≤ n → n < 32 → ¬ bq (w.1 554 a c) (nI n)) :
  ∃ w', nc_Call m_X7_forget [lO a, .inl (nI c)] w = some (none, w') ∧ eqO (fun t a' => a' = a ∧ t = 554) w w' ∧ (∀ c', c' ≠ c → w'.1 554 a c' = w.1 554 a c') ∧ ∀ n, n < 32 → (bq (w'.1 554 a c) (nI n) ↔ bq (w.1 554 a c) (nI n) ∧ w.1 7 a 1 - w.1 553 a (10 * c + n) ≤ w.1 241 (nc_ld a) c) := by
  rw [qc_X7_forget]
  refine lp (R := fun i (v : nc_H) => nc_Run m_X7_forget 2 [some (lO a), some (.inl (nI c)), some (.inl (nI i))] [] v) (I := fun i v => eqO (fun t a' => a' = a ∧ t = 554) w v ∧ (∀ c', c' ≠ c → v.1 554 a c' = w.1 554 a c') ∧ ∀ n, n < 32 → (bq (v.1 554 a c) (nI n) ↔ bq (w.1 554 a c) (nI n) ∧ (n < i → w.1 7 a 1 - w.1 553 a (10 * c + n) ≤ w.1 241 (nc_ld a) c))) (n := N) (Q := fun r => ∃ w', r = some (none, w') ∧ eqO (fun t a' => a' = a ∧ t = 554) w w' ∧ (∀ c', c' ≠ c → w'.1 554 a c' = w.1 554 a c') ∧ ∀ n, n < 32 → (bq (w'.1 554 a c) (nI n) ↔ bq (w.1 554 a c) (nI n) ∧ w.1 7 a 1 - w.1 553 a (10 * c + n) ≤ w.1 241 (nc_ld a) c)) ?_ ?_ N 0 w (by omega) ?_
  · rintro i v hi ⟨q1, q2, q3⟩
    have hgi : ¬ N ≤ i := by omega
    have nG : ∀ t, t ≠ 554 → ∀ x, v.1 t x = w.1 t x := fun t n1 x => q1.2 t x (fun q => n1 q.2)
    have e3v : v.1 2 (nc_ld a) 3 = nI N := by rw [nG 2 (by omega)]; exact e3
    have ix : nI c * 10 + nI i = nI (10 * c + i) := by
      rw [show (10 : Int32) = nI 10 from rfl, pk_mul, nI_add, Nat.mul_comm]
    by_cases z : v.1 554 a c >>> (nI i &&& 31) = 0
    · left
      refine ⟨v, ?_, q1, q2, fun n hn => ?_⟩
      · show nc_Run m_X7_forget 2 _ _ _ = _
        rw [qr_X7_forget_2]
        simp (disch := omega) only [↓nc_lt_v, ↓nc_li_v, ↓nc_bI_v, ↓nc_bV_v, ↓nc_bL_v, ↓nc_ll_v, ↓bd8, ↓reduceIte, ↓nc_z_tI, ↓nc_z_0, ↓nc_z_1, nI_leI, nI_ltI, nI_1, tI_ne, tI_eq0, ne_eq, not_true_eq_false, not_false_eq_true, Decidable.not_not, e3v, hgi, z]
      · by_cases e : n < i
        · rw [q3 n hn]
          exact and_congr_right (fun _ => ⟨fun q => q e, fun q _ => q⟩)
        · have n1 := shr_0 (by omega) z (by omega : i ≤ n) hn
          have n2 : ¬ bq (w.1 554 a c) (nI n) := fun q => n1 ((q3 n hn).mpr ⟨q, fun q => absurd q e⟩)
          exact ⟨fun q => absurd q n1, fun q => absurd q.1 n2⟩
    · right
      by_cases b : w.1 7 a 1 - w.1 553 a (10 * c + i) ≤ w.1 241 (nc_ld a) c
      · refine ⟨v, ?_, q1, q2, fun n hn => ?_⟩
        · show nc_Run m_X7_forget 2 _ _ _ = nc_Run m_X7_forget 2 _ _ _
          rw [qr_X7_forget_2]
          simp (disch := omega) only [↓nc_lt_v, ↓nc_li_v, ↓nc_bI_v, ↓nc_bV_v, ↓nc_bL_v, ↓nc_ll_v, ↓bd8, ↓reduceIte, ↓nc_z_tI, ↓nc_z_0, ↓nc_z_1, nI_leI, nI_ltI, nI_1, tI_ne, tI_eq0, ne_eq, not_true_eq_false, not_false_eq_true, Decidable.not_not, e3v, hgi, eq_false z, ix, nG, b]
        · rw [q3 n hn]
          refine and_congr_right (fun _ => ⟨fun q hq => ?_, fun q hq => q (by omega)⟩)
          by_cases e : n = i
          · subst e
            exact b
          · exact q (by omega)
      · refine ⟨row v 554 a (upd (v.1 554 a) c (v.1 554 a c &&& (bs i ^^^ (-1)))), ?_, q1.row ⟨rfl, rfl⟩, fun c' hc' => ?_, fun n hn => ?_⟩
        · show nc_Run m_X7_forget 2 _ _ _ = nc_Run m_X7_forget 2 _ _ _
          rw [qr_X7_forget_2]
          simp (disch := omega) only [↓nc_lt_v, ↓nc_li_v, ↓nc_bI_v, ↓nc_bV_v, ↓nc_bL_v, ↓nc_ll_v, ↓bd8, ↓reduceIte, ↓nc_z_tI, ↓nc_z_0, ↓nc_z_1, nI_leI, nI_ltI, nI_1, tI_ne, tI_eq0, ne_eq, not_true_eq_false, not_false_eq_true, Decidable.not_not, e3v, hgi, eq_false z, ix, nG, eq_false b, si_rw]
          rfl
        · rw [row_s, upd_n hc', q2 c' hc']
        · rw [row_s, upd_s, bq_and hn, bq_not hn, bq_bs (by omega) hn, q3 n hn]
          constructor
          · rintro ⟨⟨p1, p2⟩, p3⟩
            exact ⟨p1, fun q => p2 (by omega)⟩
          · rintro ⟨p1, p2⟩
            refine ⟨⟨p1, fun q => p2 (by omega)⟩, fun e => ?_⟩
            subst e
            exact b (p2 (by omega))
  · rintro v ⟨q1, q2, q3⟩
    have e3v : v.1 2 (nc_ld a) 3 = nI N := by rw [q1.2 2 _ (fun q => by have := q.2; omega)]; exact e3
    refine ⟨v, ?_, q1, q2, fun n hn => ?_⟩
    · show nc_Run m_X7_forget 2 _ _ _ = _
      rw [qr_X7_forget_2]
      simp (disch := omega) only [↓nc_lt_v, ↓nc_li_v, ↓nc_bI_v, ↓nc_bV_v, ↓nc_bL_v, ↓nc_ll_v, ↓bd8, ↓reduceIte, ↓nc_z_tI, ↓nc_z_0, ↓nc_z_1, nI_leI, nI_ltI, nI_1, tI_ne, tI_eq0, ne_eq, not_true_eq_false, not_false_eq_true, Decidable.not_not, e3v, Nat.le_refl]
    · rw [q3 n hn]
      by_cases e : n < N
      · exact and_congr_right (fun _ => ⟨fun q => q e, fun q _ => q⟩)
      · exact ⟨fun q => absurd q.1 (hK n (by omega) hn), fun q => absurd q.1 (hK n (by omega) hn)⟩
  · exact ⟨eqO.rf, fun _ _ => rfl, fun n hn => ⟨fun q => ⟨q, fun q => absurd q (Nat.not_lt_zero _)⟩, fun q => q.1⟩⟩
/-- when news came last: never behind today -/
def lsO (S : Nat → Int32) (C N d : Nat) : Prop := ∀ c n, c < C → n < N → ∃ l, l ≤ d + 1 ∧ S (132 + 10 * c + n) = nI l
/-- what is known tomorrow -/
theorem kn_day {n : Nat} (hf : f ≤ 4) (hC : C ≤ 8) (hN : N ≤ 10) (hd : S 76 = nI d) (hd4 : d ≤ 400) (hls : lsO S C N d) (hkp : kpOK S C) (hc : c < C) (hn : n < N) : kn (dayS S d f C N h) c n ↔ (kn S c n ∨ lrn S C N h (S (5 + c)) n) ∧ S 76 + 1 - (if lrn S C N h (S (5 + c)) n then S 76 else S (132 + 10 * c + n) - 1) ≤ S (29 + c) := by
  show (¬ dayS S d f C N h (132 + 10 * c + n) ≤ 0 ∧ ¬ dayS S d f C N h (29 + c) < dayS S d f C N h 76 - (dayS S d f C N h (132 + 10 * c + n) - 1)) ↔ _
  rw [dayS_76, dayS_o (k := 29 + c) hf hC (by omega), dayS_132 (by omega) (by omega) hf hC, Int32.not_lt]
  by_cases b : lrn S C N h (S (5 + c)) n
  · rw [if_pos (And.intro hc (And.intro hn b)), if_pos b, day_1 ⟨d, hd4, hd⟩]
    refine ⟨fun q => ⟨Or.inr b, q.2⟩, fun q => ⟨?_, q.2⟩⟩
    rw [hd, nI_1]
    exact nI_nle (by omega) (by omega)
  · rw [if_neg (fun q => b q.2.2), if_neg b]
    constructor
    · rintro ⟨p1, p2⟩
      refine ⟨Or.inl ⟨p1, ?_⟩, p2⟩
      obtain ⟨l, l1, l2⟩ := hls c n hc hn
      obtain ⟨k, k1, k2⟩ := hkp c hc
      rw [l2] at p1 p2 ⊢
      have l0 : 0 < l := by
        rcases Nat.eq_zero_or_pos l with e | e
        · subst e
          exact absurd (show nI 0 ≤ 0 by decide) p1
        · exact e
      have e1 : nI l - 1 = nI (l - 1) := by
        have := nI_pred (l - 1)
        rwa [show l - 1 + 1 = l by omega] at this
      rw [e1, hd, nI_1, k2, pk_sub (by omega), nI_leI (by omega) (by omega)] at p2
      rw [e1, hd, k2, pk_sub (by omega), nI_ltI (by omega) (by omega)]
      omega
    · rintro ⟨p1 | p1, p2⟩
      · exact ⟨p1.1, p2⟩
      · exact absurd p1 b
theorem sl_turn (hD : DR w (nc_ld a) S f C N h) (hL : LT w a S) (h99 : w.1 7 a 2 = S 99) (h79 : ∀ c, c < 8 → w.1 559 a c = S (79 + c)) (hd : S 76 = nI d) (hd4 : d ≤ 400) (hls : lsO S C N d) (hkp : kpOK S C)
  (t1 : ∀ c, c < C → ∀ n, n < 32 → (bq (w.1 554 a c) (nI n) ↔ n < N ∧ (kn S c n ∨ lrn S C N h (S (5 + c)) n))) (t2 : ∀ c n, c < C → n < N → kn S c n ∨ lrn S C N h (S (5 + c)) n → w.1 553 a (10 * c + n) = if lrn S C N h (S (5 + c)) n then S 76 else S (132 + 10 * c + n) - 1) :
  ∃ w', nc_Call m_X7_turn [lO a] w = some (none, w') ∧ eqO (lQ a) w w' ∧ LK w' a (dayS S d f C N h) C N := by
  have hf : f ≤ 4 := hD.1.2.2.2.2.1
  have hC : C ≤ 8 := hD.1.2.2.2.2.2.1
  have hN : N ≤ 10 := hD.1.2.2.2.2.2.2.1
  have e1 : w.1 7 a 1 = S 76 := hL.1.1
  rw [qc_X7_turn, nc_lt_v, si_rw, e1]
  refine lp (R := fun i (v : nc_H) => nc_Run m_X7_turn 12 [some (lO a), some (.inl (nI i))] [] v) (I := fun i v => eqO (lQ a) w v ∧ v.1 7 a = upd (w.1 7 a) 1 (S 76 + 1) ∧ v.1 553 a = w.1 553 a ∧ v.1 558 a = w.1 558 a ∧ v.1 559 a = w.1 559 a ∧ (∀ c, c < 8 → v.1 555 a c = if c < i then 0 else w.1 555 a c) ∧ (∀ c, c < 8 → v.1 556 a c = if c < i then 0 else w.1 556 a c) ∧ (∀ c, c < 8 → v.1 557 a c = if c < i then w.1 555 a c else w.1 557 a c) ∧ (∀ c, c < C → ∀ n, n < 32 → (bq (v.1 554 a c) (nI n) ↔ bq (w.1 554 a c) (nI n) ∧ (c < i → S 76 + 1 - w.1 553 a (10 * c + n) ≤ S (29 + c))))) (n := C) (Q := fun r => ∃ w', r = some (none, w') ∧ eqO (lQ a) w w' ∧ LK w' a (dayS S d f C N h) C N) ?_ ?_ C 0 _ (by omega) ?_
  · rintro i v hi ⟨q1, q2, q3, q4, q5, q6, q7, q8, q9⟩
    right
    have hgi : ¬ C ≤ i := by omega
    have nG : ∀ t, t = 2 ∨ (238 ≤ t ∧ t ≤ 246) → ∀ x, v.1 t x = w.1 t x := fun t ht x => q1.2 t x (fun q => by have := q.2; omega)
    have hDv : DR v (nc_ld a) S f C N h := DR_eq hD (fun t ht => nG t ht _) (fun k _ => rfl)
    have e2 : v.1 2 (nc_ld a) 2 = nI C := hDv.2.1.2.1
    generalize hu : row (row (row v 557 a (upd (v.1 557 a) i (v.1 555 a i))) 555 a (upd (v.1 555 a) i 0)) 556 a (upd (v.1 556 a) i 0) = u
    have o1 : eqO (lQ a) v u := by
      rw [← hu]
      exact ((eqO.rf.row ⟨rfl, Or.inr (Or.inl ⟨by decide, by decide⟩)⟩).row ⟨rfl, Or.inr (Or.inl ⟨by decide, by decide⟩)⟩).row ⟨rfl, Or.inr (Or.inl ⟨by decide, by decide⟩)⟩
    have uG : ∀ t, t ≠ 555 → t ≠ 556 → t ≠ 557 → ∀ x, u.1 t x = v.1 t x := fun t n1 n2 n3 x => by rw [← hu, row_t n2, row_t n1, row_t n3]
    have u3 : u.1 2 (nc_ld a) 3 = nI N := by rw [uG 2 (by omega) (by omega) (by omega)]; exact hDv.2.1.2.2.1
    obtain ⟨v', r1, r2, r3, r4⟩ := sl_forget (w := u) (a := a) (c := i) hN (by omega) u3 (fun n hn hn2 q => by
      rw [uG 554 (by omega) (by omega) (by omega)] at q
      have := ((t1 i hi n hn2).mp ((q9 i hi n hn2).mp q).1).1
      omega)
    have rG : ∀ t, t ≠ 554 → ∀ x, v'.1 t x = u.1 t x := fun t n1 x => r2.2 t x (fun q => n1 q.2)
    refine ⟨v', ?_, ?_, ?_, ?_, ?_, ?_, fun c hc => ?_, fun c hc => ?_, fun c hc => ?_, fun c hc n hn => ?_⟩
    · show nc_Run m_X7_turn 12 _ _ _ = nc_Run m_X7_turn 12 _ _ _
      rw [qr_X7_turn_12]
      simp (disch := omega) only [↓nc_lt_v, ↓nc_li_v, ↓nc_bI_v, ↓nc_bV_v, ↓nc_bL_v, ↓nc_ll_v, ↓bd8, ↓reduceIte, ↓nc_z_tI, ↓nc_z_0, ↓nc_z_1, nI_leI, nI_ltI, nI_1, tI_ne, tI_eq0, ne_eq, not_true_eq_false, not_false_eq_true, Decidable.not_not, e2, hgi, si_rw, row_t, ↓hu, ↓r1]
    · exact (q1.tr o1).tr ⟨r2.1, fun t a' q => r2.2 t a' (fun z => q ⟨z.1, Or.inr (Or.inl ⟨by have := z.2; omega, by have := z.2; omega⟩)⟩)⟩
    · rw [rG 7 (by omega), uG 7 (by omega) (by omega) (by omega), q2]
    · rw [rG 553 (by omega), uG 553 (by omega) (by omega) (by omega), q3]
    · rw [rG 558 (by omega), uG 558 (by omega) (by omega) (by omega), q4]
    · rw [rG 559 (by omega), uG 559 (by omega) (by omega) (by omega), q5]
    · rw [rG 555 (by omega), ← hu, row_t (by decide), row_s]
      unfold upd
      by_cases e : c = i
      · rw [if_pos e, if_pos (by omega)]
      · have : c < i + 1 ↔ c < i := by omega
        rw [if_neg e, q6 c hc]
        simp only [this]
    · rw [rG 556 (by omega), ← hu, row_s]
      unfold upd
      by_cases e : c = i
      · rw [if_pos e, if_pos (by omega)]
      · have : c < i + 1 ↔ c < i := by omega
        rw [if_neg e, q7 c hc]
        simp only [this]
    · rw [rG 557 (by omega), ← hu, row_t (by decide), row_t (by decide), row_s]
      unfold upd
      by_cases e : c = i
      · rw [if_pos e, if_pos (by omega), q6 i (by omega), if_neg (by omega), e]
      · have : c < i + 1 ↔ c < i := by omega
        rw [if_neg e, q8 c hc]
        simp only [this]
    · by_cases e : c = i
      · subst e
        rw [r4 n hn, uG 554 (by omega) (by omega) (by omega), q9 c hc n hn, uG 7 (by omega) (by omega) (by omega), q2, upd_s, uG 553 (by omega) (by omega) (by omega), q3, uG 241 (by omega) (by omega) (by omega), (hDv.2.2.1 c hc).2.2.2]
        exact ⟨fun ⟨⟨p1, _⟩, p2⟩ => ⟨p1, fun _ => p2⟩, fun ⟨p1, p2⟩ => ⟨⟨p1, fun q => absurd q (Nat.lt_irrefl _)⟩, p2 (by omega)⟩⟩
      · have : c < i + 1 ↔ c < i := by omega
        rw [r3 c e, uG 554 (by omega) (by omega) (by omega), q9 c hc n hn, this]
  · rintro v ⟨q1, q2, q3, q4, q5, q6, q7, q8, q9⟩
    have e2 : v.1 2 (nc_ld a) 2 = nI C := by rw [q1.2 2 _ (fun q => by have := q.2; omega)]; exact hD.2.1.2.1
    have K := fun c n hc hn => kn_day (c := c) (n := n) (h := h) hf hC hN hd hd4 hls hkp hc hn
    refine ⟨v, ?_, q1, ⟨⟨?_, ?_, ?_⟩, fun c hc => ⟨?_, ?_, ?_, ?_⟩⟩, ?_, fun c hc => ?_, fun c hc => ?_, fun c n hc hn hk => ?_⟩
    · show nc_Run m_X7_turn 12 _ _ _ = _
      rw [qr_X7_turn_12]
      simp (disch := omega) only [↓nc_lt_v, ↓nc_li_v, ↓nc_bI_v, ↓nc_bV_v, ↓nc_bL_v, ↓nc_ll_v, ↓bd8, ↓reduceIte, ↓nc_z_tI, ↓nc_z_0, ↓nc_z_1, nI_leI, nI_ltI, nI_1, tI_ne, tI_eq0, ne_eq, not_true_eq_false, not_false_eq_true, Decidable.not_not, e2, Nat.le_refl]
    · rw [q2, upd_s, dayS_76]
    · rw [q2, upd_n (by decide), dayS_o hf hC (by omega), hL.1.2.1]
    · rw [q2, upd_n (by decide), dayS_o hf hC (by omega), hL.1.2.2]
    · rw [q6 c hc, dayS_100 hc hf hC, (hL.2 c hc).1]
    · rw [q7 c hc, dayS_108 hc hf hC, (hL.2 c hc).2.1]
    · rw [q8 c hc, dayS_116 hc hf hC, (hL.2 c hc).1, (hL.2 c hc).2.2.1]
    · rw [q4, dayS_o hf hC (by omega), (hL.2 c hc).2.2.2]
    · rw [q2, upd_n (by decide), dayS_o hf hC (by omega), h99]
    · rw [q5, dayS_o hf hC (by omega), h79 c hc]
    · refine bq_ext (fun n hn => ?_)
      rw [q9 c hc n hn, t1 c hc n hn, bq_kns hN hn]
      constructor
      · rintro ⟨⟨p1, p2⟩, p3⟩
        refine ⟨p1, (K c n hc p1).mpr ⟨p2, ?_⟩⟩
        rw [← t2 c n hc p1 p2]
        exact p3 hc
      · rintro ⟨p1, p2⟩
        have p3 := (K c n hc p1).mp p2
        refine ⟨⟨p1, p3.1⟩, fun _ => ?_⟩
        rw [t2 c n hc p1 p3.1]
        exact p3.2
    · have p3 := (K c n hc hn).mp hk
      rw [q3, t2 c n hc hn p3.1, dayS_132 (by omega) (by omega) hf hC]
      by_cases b : lrn S C N h (S (5 + c)) n
      · rw [if_pos b, if_pos (And.intro hc (And.intro hn b)), day_1 ⟨d, hd4, hd⟩]
      · rw [if_neg b, if_neg (fun q => b q.2.2)]
  · refine ⟨eqO.rf.row ⟨rfl, Or.inl rfl⟩, row_s, by rw [row_t (by decide)], by rw [row_t (by decide)], by rw [row_t (by decide)], fun c hc => ?_, fun c hc => ?_, fun c hc => ?_, fun c hc n hn => ?_⟩
    · rw [row_t (by decide), if_neg (Nat.not_lt_zero _)]
    · rw [row_t (by decide), if_neg (Nat.not_lt_zero _)]
    · rw [row_t (by decide), if_neg (Nat.not_lt_zero _)]
    · rw [row_t (by decide)]
      exact ⟨fun q => ⟨q, fun q => absurd q (Nat.not_lt_zero _)⟩, fun q => q.1⟩
end TU
