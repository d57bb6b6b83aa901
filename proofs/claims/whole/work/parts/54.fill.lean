/-! A DAY OF THE CLASS: what S is behind a day, place by place; pails. -/
section DP
variable {w : nc_H} {a d f C N h i : Nat} {S : Nat → Int32}
theorem dayS_76 : dayS S d f C N h 76 = S 76 + 1 := if_pos rfl
theorem dayS_o {k : Nat} (hf : f ≤ 4) (hC : C ≤ 8) (hk : k < 76 ∨ (77 ≤ k ∧ k < 87) ∨ k = 99 ∨ (124 ≤ k ∧ k < 132) ∨ 332 ≤ k) : dayS S d f C N h k = S k := by
  unfold dayS
  rw [if_neg (by omega)]
  unfold day4
  rw [if_neg (by omega), if_neg (by omega), if_neg (by omega), day3_o hf hC (by omega)]
theorem dayS_87 {c : Nat} (hc : c < 8) (hC : C ≤ 8) : dayS S d f C N h (87 + c) = if c < C then S (87 + c) + mwi S C N c 0 else S (87 + c) := by
  unfold dayS
  rw [if_neg (by omega)]
  unfold day4
  rw [if_neg (by omega), if_neg (by omega), if_neg (by omega)]
  unfold day3
  rw [if_neg (by omega)]
  unfold day2
  rw [Nat.add_sub_cancel_left]
  by_cases e : c < C
  · rw [if_pos (by omega), if_pos e]
  · rw [if_neg (by omega), if_neg e]
    unfold day1
    rw [if_neg (by omega), if_neg (by omega)]
theorem dayS_95 {g : Nat} (hg : g < 4) (hC : C ≤ 8) : dayS S d f C N h (95 + g) = if g < f then S (95 + g) + mof S C N (nI g) else S (95 + g) := by
  unfold dayS
  rw [if_neg (by omega)]
  unfold day4
  rw [if_neg (by omega), if_neg (by omega), if_neg (by omega)]
  unfold day3
  rw [if_neg (by omega)]
  unfold day2
  rw [if_neg (by omega)]
  unfold day1
  rw [Nat.add_sub_cancel_left]
  by_cases e : g < f
  · rw [if_pos (by omega), if_pos e]
  · rw [if_neg (by omega), if_neg (by omega), if_neg e]
theorem dayS_100 {c : Nat} (hc : c < 8) (hf : f ≤ 4) (hC : C ≤ 8) : dayS S d f C N h (100 + c) = if c < C then 0 else S (100 + c) := by
  unfold dayS
  rw [if_neg (by omega)]
  unfold day4
  by_cases e : c < C
  · rw [if_pos (by omega), if_pos e]
  · rw [if_neg (by omega), if_neg (by omega), if_neg (by omega), day3_o hf hC (by omega), if_neg e]
theorem dayS_108 {c : Nat} (hc : c < 8) (hf : f ≤ 4) (hC : C ≤ 8) : dayS S d f C N h (108 + c) = if c < C then 0 else S (108 + c) := by
  unfold dayS
  rw [if_neg (by omega)]
  unfold day4
  rw [if_neg (by omega)]
  by_cases e : c < C
  · rw [if_pos (by omega), if_pos e]
  · rw [if_neg (by omega), if_neg (by omega), day3_o hf hC (by omega), if_neg e]
theorem dayS_116 {c : Nat} (hc : c < 8) (hf : f ≤ 4) (hC : C ≤ 8) : dayS S d f C N h (116 + c) = if c < C then S (100 + c) else S (116 + c) := by
  unfold dayS
  rw [if_neg (by omega)]
  unfold day4
  rw [if_neg (by omega), if_neg (by omega)]
  by_cases e : c < C
  · have : 116 + c - 16 = 100 + c := by omega
    rw [if_pos (by omega), if_pos e, this]
  · rw [if_neg (by omega), day3_o hf hC (by omega), if_neg e]
theorem dayS_132 {c n : Nat} (hc : c < 8) (hn : n < 10) (hf : f ≤ 4) (hC : C ≤ 8) : dayS S d f C N h (132 + 10 * c + n) = if c < C ∧ n < N ∧ lrn S C N h (S (5 + c)) n then S 76 + 1 else S (132 + 10 * c + n) := by
  unfold dayS
  rw [if_neg (by omega)]
  unfold day4
  rw [if_neg (by omega), if_neg (by omega), if_neg (by omega), day3_in hf hC hc hn]
theorem dayS_212 {g t : Nat} (hg : g < 4) (ht : t < 30) (hf : f ≤ 4) (hC : C ≤ 8) : dayS S d f C N h (212 + 30 * g + t) = if g < f ∧ t = d % 30 then mof S C N (nI g) else S (212 + 30 * g + t) := by
  unfold dayS
  rw [if_neg (by omega)]
  unfold day4
  rw [if_neg (by omega), if_neg (by omega), if_neg (by omega)]
  unfold day3
  rw [if_neg (by omega)]
  unfold day2
  rw [if_neg (by omega)]
  unfold day1
  rw [if_neg (by omega)]
  have e1 : (212 + 30 * g + t - 212) / 30 = g := by omega
  have e2 : (212 + 30 * g + t - 212) % 30 = t := by omega
  rw [e1, e2]
  by_cases e : g < f ∧ t = d % 30
  · rw [if_pos (by omega), if_pos e]
  · rw [if_neg (by omega), if_neg e]
theorem LT_eq {w' : nc_H} (hL : LT w a S) (hw : ∀ t, t = 7 ∨ (555 ≤ t ∧ t ≤ 558) → w'.1 t a = w.1 t a) : LT w' a S := by
  obtain ⟨h1, h2⟩ := hL
  refine ⟨?_, fun c hc => ?_⟩
  · rw [hw 7 (by omega)]
    exact h1
  · rw [hw 555 (by omega), hw 556 (by omega), hw 557 (by omega), hw 558 (by omega)]
    exact h2 c hc
/-- the milk of the first i cows that are of a farm -/
def mop (S : Nat → Int32) (C N : Nat) (x : Int32) (i : Nat) : Int32 := it (fun i (z : Int32) => z + (if S (5 + i) = x then mwi S C N i 0 else 0)) 0 i 0
theorem mop_s {x : Int32} : mop S C N x (i + 1) = mop S C N x i + (if S (5 + i) = x then mwi S C N i 0 else 0) := by
  unfold mop
  rw [it_succ, Nat.zero_add]
theorem mop_0 {g : Nat} (hfa : ∀ c, c < C → ∃ g, g < f ∧ S (5 + c) = nI g) (hf : f ≤ 4) (hg : f ≤ g) (hg4 : g < 4) : ∀ i, i ≤ C → mop S C N (nI g) i = 0
  | 0, _ => rfl
  | i + 1, hi => by
    obtain ⟨q, q1, q2⟩ := hfa i (by omega)
    rw [mop_s, mop_0 hfa hf hg hg4 i (by omega), q2, if_neg (fun e => by have := (nI_eq (by omega) (by omega)).mp e; omega), Int32.add_zero]
/-- the rows of milk given -/
def lG (a t a' : Nat) : Prop := a' = a ∧ (t = 560 ∨ t = 561 ∨ t = 562)
theorem sl_fillPails (hD : DR w (nc_ld a) S f C N h) (hL : LT w a S) (hG : LG w a S f) (hk : kOK S N) (hfa : ∀ c, c < C → ∃ g, g < f ∧ S (5 + c) = nI g) (hd : S 76 = nI d) (hd4 : d ≤ 400) :
  ∃ w', nc_Call m_X7_fillPails [lO a] w = some (none, w') ∧ eqO (lG a) w w' ∧ (∀ c, c < 8 → w'.1 560 a c = dayS S d f C N h (87 + c)) ∧ (∀ g, g < 4 → w'.1 561 a g = dayS S d f C N h (95 + g)) ∧ (∀ g t, g < f → t < 30 → t < d + 1 → w'.1 562 a (4 * t + g) = dayS S d f C N h (212 + 30 * g + t)) := by
  have hf : f ≤ 4 := hD.1.2.2.2.2.1
  have hC : C ≤ 8 := hD.1.2.2.2.2.2.1
  have hN : N ≤ 10 := hD.1.2.2.2.2.2.2.1
  have e7 : w.1 7 a 1 = nI d := hL.1.1.trans hd
  have eix : (nI d - nI d / 30 * 30) * 4 = nI (4 * (d % 30)) := by
    rw [show (30 : Int32) = nI 30 from rfl, pk_rem (by omega) (by omega) (by omega), show (4 : Int32) = nI 4 from rfl, pk_mul, Nat.mul_comm]
  rw [qc_X7_fillPails, nc_li_v, e7, eix]
  have hdm : d % 30 < 30 := Nat.mod_lt _ (by decide)
  generalize hm : d % 30 = m at hdm
  have P : ∃ v, nc_Run m_X7_fillPails 12 [some (lO a), some (.inl (nI (4 * m))), some (.inl (nI 0)), none, none] [] w = nc_Run m_X7_fillPails 34 [some (lO a), some (.inl (nI (4 * m))), some (.inl (nI 0)), none, none] [] v ∧ eqO (lG a) w v ∧ v.1 560 a = w.1 560 a ∧ v.1 561 a = w.1 561 a ∧ ∀ k, v.1 562 a k = if 4 * m ≤ k ∧ k < 4 * m + 4 then 0 else w.1 562 a k := by
    refine lp (R := fun i (v : nc_H) => nc_Run m_X7_fillPails 12 [some (lO a), some (.inl (nI (4 * m))), some (.inl (nI i)), none, none] [] v) (I := fun i v => eqO (lG a) w v ∧ v.1 560 a = w.1 560 a ∧ v.1 561 a = w.1 561 a ∧ ∀ k, v.1 562 a k = if 4 * m ≤ k ∧ k < 4 * m + i then 0 else w.1 562 a k) (n := 4) (Q := fun r => ∃ v, r = nc_Run m_X7_fillPails 34 [some (lO a), some (.inl (nI (4 * m))), some (.inl (nI 0)), none, none] [] v ∧ eqO (lG a) w v ∧ v.1 560 a = w.1 560 a ∧ v.1 561 a = w.1 561 a ∧ ∀ k, v.1 562 a k = if 4 * m ≤ k ∧ k < 4 * m + 4 then 0 else w.1 562 a k) ?_ ?_ 4 0 w (by omega) ?_
    · rintro i v hi ⟨q1, q2, q3, q4⟩
      right
      have hgi : ¬ (4 : Int32) ≤ nI i := by
        rw [show (4 : Int32) = nI 4 from rfl, nI_leI (by omega) (by omega)]
        omega
      refine ⟨row v 562 a (upd (v.1 562 a) (4 * m + i) 0), ?_, q1.row ⟨rfl, Or.inr (Or.inr rfl)⟩, by rw [row_t (by decide), q2], by rw [row_t (by decide), q3], fun k => ?_⟩
      · show nc_Run m_X7_fillPails 12 _ _ _ = nc_Run m_X7_fillPails 12 _ _ _
        rw [qr_X7_fillPails_12]
        simp (disch := omega) only [↓nc_lt_v, ↓nc_li_v, ↓nc_bI_v, ↓nc_bV_v, ↓nc_bL_v, ↓nc_ll_v, ↓bd8, ↓reduceIte, ↓nc_z_tI, ↓nc_z_0, ↓nc_z_1, nI_leI, nI_ltI, nI_1, tI_ne, tI_eq0, ne_eq, not_true_eq_false, not_false_eq_true, Decidable.not_not, eq_false hgi, nI_add, si_rw]
      · rw [row_s]
        unfold upd
        by_cases e : k = 4 * m + i
        · rw [if_pos e, if_pos (by omega)]
        · have : (4 * m ≤ k ∧ k < 4 * m + (i + 1)) ↔ (4 * m ≤ k ∧ k < 4 * m + i) := by omega
          rw [if_neg e, q4]
          simp only [this]
    · rintro v ⟨q1, q2, q3, q4⟩
      refine ⟨v, ?_, q1, q2, q3, q4⟩
      show nc_Run m_X7_fillPails 12 _ _ _ = _
      rw [qr_X7_fillPails_12, if_pos (by decide)]
      rfl
    · exact ⟨eqO.rf, rfl, rfl, fun k => by rw [if_neg (by omega)]⟩
  obtain ⟨v0, p1, p2, p3, p4, p5⟩ := P
  rw [show (0 : Int32) = nI 0 from rfl, p1]
  refine lp (R := fun i (v : nc_H) => nc_Run m_X7_fillPails 34 [some (lO a), some (.inl (nI (4 * m))), some (.inl (nI i)), none, none] [] v) (I := fun i v => eqO (lG a) w v ∧ (∀ c, c < 8 → v.1 560 a c = if c < i then S (87 + c) + mwi S C N c 0 else S (87 + c)) ∧ (∀ g, g < 4 → v.1 561 a g = S (95 + g) + mop S C N (nI g) i) ∧ (∀ g t, g < 4 → t < 30 → v.1 562 a (4 * t + g) = if t = m then mop S C N (nI g) i else w.1 562 a (4 * t + g))) (n := C) (Q := fun r => ∃ w', r = some (none, w') ∧ eqO (lG a) w w' ∧ (∀ c, c < 8 → w'.1 560 a c = dayS S d f C N h (87 + c)) ∧ (∀ g, g < 4 → w'.1 561 a g = dayS S d f C N h (95 + g)) ∧ (∀ g t, g < f → t < 30 → t < d + 1 → w'.1 562 a (4 * t + g) = dayS S d f C N h (212 + 30 * g + t))) ?_ ?_ C 0 v0 (by omega) ?_
  · rintro i v hi ⟨q1, q2, q3, q4⟩
    right
    have hgi : ¬ C ≤ i := by omega
    have nG : ∀ t, t ≠ 560 → t ≠ 561 → t ≠ 562 → ∀ x, v.1 t x = w.1 t x := fun t n1 n2 n3 x => q1.2 t x (fun q => by have := q.2; omega)
    have hDv : DR v (nc_ld a) S f C N h := DR_eq hD (fun t ht => nG t (by omega) (by omega) (by omega) _) (fun k _ => rfl)
    have hLv : LT v a S := LT_eq hL (fun t ht => nG t (by omega) (by omega) (by omega) _)
    have e2 : v.1 2 (nc_ld a) 2 = nI C := hDv.2.1.2.1
    have m1 := sl_milk hDv hLv hk ⟨d, hd4, hd⟩ hi
    obtain ⟨g, g1, g2⟩ := hfa i hi
    have e238 : v.1 238 (nc_ld a) i = nI g := (hDv.2.2.1 i hi).1.trans g2
    have ea : nI (4 * m) + nI g = nI (4 * m + g) := nI_add _ _
    refine ⟨row (row (row v 560 a (upd (v.1 560 a) i (v.1 560 a i + mwi S C N i 0))) 561 a (upd (v.1 561 a) g (v.1 561 a g + mwi S C N i 0))) 562 a (upd (v.1 562 a) (4 * m + g) (v.1 562 a (4 * m + g) + mwi S C N i 0)), ?_, ?_, fun c hc => ?_, fun g' hg' => ?_, fun g' t hg' ht => ?_⟩
    · show nc_Run m_X7_fillPails 34 _ _ _ = nc_Run m_X7_fillPails 34 _ _ _
      rw [qr_X7_fillPails_34]
      simp (disch := omega) only [↓m1, ↓nc_lt_v, ↓nc_li_v, ↓nc_bI_v, ↓nc_bV_v, ↓nc_bL_v, ↓nc_ll_v, ↓bd8, ↓reduceIte, ↓nc_z_tI, ↓nc_z_0, ↓nc_z_1, nI_leI, nI_ltI, nI_1, tI_ne, tI_eq0, ne_eq, not_true_eq_false, not_false_eq_true, Decidable.not_not, e2, hgi, e238, ea, si_rw, row_t]
    · exact ((q1.row ⟨rfl, Or.inl rfl⟩).row ⟨rfl, Or.inr (Or.inl rfl)⟩).row ⟨rfl, Or.inr (Or.inr rfl)⟩
    · rw [row_t (by decide), row_t (by decide), row_s]
      unfold upd
      by_cases e : c = i
      · rw [if_pos e, q2 i (by omega), if_neg (by omega), if_pos (by omega), e]
      · have : c < i + 1 ↔ c < i := by omega
        rw [if_neg e, q2 c hc]
        simp only [this]
    · rw [row_t (by decide), row_s, mop_s, g2]
      unfold upd
      by_cases e : g' = g
      · subst e
        rw [if_pos rfl, q3 g' hg', if_pos rfl, Int32.add_assoc]
      · rw [if_neg e, q3 g' hg', if_neg (fun q => e ((nI_eq (by omega) (by omega)).mp q).symm), Int32.add_zero]
    · rw [row_s, mop_s, g2]
      unfold upd
      by_cases e : t = m
      · by_cases e2 : g' = g
        · subst e2
          subst e
          rw [if_pos rfl, if_pos rfl, q4 g' t hg' ht, if_pos rfl, if_pos rfl]
        · rw [if_neg (by omega), q4 g' t hg' ht, if_pos e, if_pos e, if_neg (fun q => e2 ((nI_eq (by omega) (by omega)).mp q).symm), Int32.add_zero]
      · rw [if_neg (by omega), q4 g' t hg' ht, if_neg e, if_neg e]
  · rintro v ⟨q1, q2, q3, q4⟩
    have nG : ∀ t, t ≠ 560 → t ≠ 561 → t ≠ 562 → ∀ x, v.1 t x = w.1 t x := fun t n1 n2 n3 x => q1.2 t x (fun q => by have := q.2; omega)
    have e2 : v.1 2 (nc_ld a) 2 = nI C := by rw [nG 2 (by omega) (by omega) (by omega)]; exact hD.2.1.2.1
    refine ⟨v, ?_, q1, fun c hc => ?_, fun g hg => ?_, fun g t hg ht htd => ?_⟩
    · show nc_Run m_X7_fillPails 34 _ _ _ = _
      rw [qr_X7_fillPails_34]
      simp (disch := omega) only [↓nc_lt_v, ↓nc_li_v, ↓nc_bI_v, ↓nc_bV_v, ↓nc_bL_v, ↓nc_ll_v, ↓bd8, ↓reduceIte, ↓nc_z_tI, ↓nc_z_0, ↓nc_z_1, nI_leI, nI_ltI, nI_1, tI_ne, tI_eq0, ne_eq, not_true_eq_false, not_false_eq_true, Decidable.not_not, e2, Nat.le_refl]
    · rw [q2 c hc, dayS_87 hc hC]
    · rw [q3 g hg, dayS_95 hg hC]
      by_cases e : g < f
      · rw [if_pos e]
        rfl
      · rw [if_neg e, mop_0 hfa hf (by omega) hg C (Nat.le_refl _), Int32.add_zero]
    · rw [q4 g t (by omega) ht, dayS_212 (by omega) ht hf hC, hm]
      by_cases e : t = m
      · rw [if_pos e, if_pos (And.intro hg e)]
        rfl
      · rw [if_neg e, if_neg (fun q => e q.2)]
        have htd2 : t < d := by omega
        exact hG.2.2 d hd4 hd g t hg ht htd2
  · refine ⟨p2, fun c hc => ?_, fun g hg => ?_, fun g t hg ht => ?_⟩
    · rw [if_neg (Nat.not_lt_zero _), p3, hG.1 c hc]
    · rw [p4, hG.2.1 g hg]
      exact (Int32.add_zero _).symm
    · rw [p5]
      by_cases e : t = m
      · rw [if_pos (by omega), if_pos e]
        rfl
      · rw [if_neg (by omega), if_neg e]
end DP
