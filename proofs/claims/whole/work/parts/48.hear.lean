/-! A LIFE, WHOLE: what it holds is what S says. -/
/-- what a Life a holds of today, of what is known and doubted -/
def LK (w : nc_H) (a : Nat) (S : Nat → Int32) (C N : Nat) : Prop := LT w a S ∧ w.1 7 a 2 = S 99 ∧ (∀ c, c < 8 → w.1 559 a c = S (79 + c)) ∧
  (∀ c, c < C → w.1 554 a c = kns S N c) ∧ (∀ c n, c < C → n < N → kn S c n → w.1 553 a (10 * c + n) = S (132 + 10 * c + n) - 1)
/-- what a Life a holds of milk given -/
def LG (w : nc_H) (a : Nat) (S : Nat → Int32) (f : Nat) : Prop := (∀ c, c < 8 → w.1 560 a c = S (87 + c)) ∧ (∀ g, g < 4 → w.1 561 a g = S (95 + g)) ∧
  (∀ d, d ≤ 400 → S 76 = nI d → ∀ g t, g < f → t < 30 → t < d → w.1 562 a (4 * t + g) = S (212 + 30 * g + t))
/-- all that a Life a holds -/
def LR (w : nc_H) (a : Nat) (S : Nat → Int32) (f C N : Nat) : Prop := LK w a S C N ∧ LG w a S f
/-- the rows of Life a -/
def lP (a t a' : Nat) : Prop := a' = a ∧ (t = 7 ∨ (553 ≤ t ∧ t ≤ 564))
/-- the rows of Life a but for the milk given -/
def lQ (a t a' : Nat) : Prop := a' = a ∧ (t = 7 ∨ (553 ≤ t ∧ t ≤ 559) ∨ t = 563 ∨ t = 564)
/-- nothing changed but what P names -/
def eqO (P : Nat → Nat → Prop) (w w' : nc_H) : Prop := w'.2 = w.2 ∧ ∀ t a, ¬ P t a → w'.1 t a = w.1 t a
theorem eqO.rf {P : Nat → Nat → Prop} {w : nc_H} : eqO P w w := ⟨rfl, fun _ _ _ => rfl⟩
theorem eqO.tr {P : Nat → Nat → Prop} {w w' w'' : nc_H} (h : eqO P w w') (h2 : eqO P w' w'') : eqO P w w'' := ⟨h2.1.trans h.1, fun t a q => (h2.2 t a q).trans (h.2 t a q)⟩
theorem eqO.row {P : Nat → Nat → Prop} {w w' : nc_H} {t a : Nat} {f : Nat → Int32} (h : eqO P w w') (hp : P t a) : eqO P w (row w' t a f) := ⟨h.1, fun t' a' q => (row_n (fun e => q (by rw [e.1, e.2]; exact hp))).trans (h.2 t' a' q)⟩
/-- keeps are whole numbers -/
def kpOK (S : Nat → Int32) (C : Nat) : Prop := ∀ c, c < C → ∃ k, k ≤ 30 ∧ S (29 + c) = nI k
theorem tellS_kn {S : Nat → Int32} {c n c' n' C N : Nat} (hd : dOK S) (hkp : kpOK S C) (hC : C ≤ 8) (hN : N ≤ 10) (hc : c < C) (hn : n < N) (hc' : c' < C) (hn' : n' < N) : kn (tellS S c n) c' n' ↔ (c' = c ∧ n' = n) ∨ kn S c' n' := by
  have e76 : tellS S c n 76 = S 76 := by
    simp only [tellS]
    repeat' split
    all_goals first | rfl | omega | (simp_all; done)
  have e29 : tellS S c n (29 + c') = S (29 + c') := by
    simp only [tellS]
    repeat' split
    all_goals first | rfl | omega | (simp_all; done)
  by_cases h : c' = c ∧ n' = n
  · obtain ⟨rfl, rfl⟩ := h
    have el : tellS S c' n' (132 + 10 * c' + n') = S 76 + 1 := by
      simp only [tellS]
      repeat' split
      all_goals first | rfl | omega | (simp_all; done)
    obtain ⟨d, hd1, hd2⟩ := hd
    obtain ⟨k, hk1, hk2⟩ := hkp c' hc'
    refine ⟨fun _ => Or.inl ⟨rfl, rfl⟩, fun _ => ⟨?_, ?_⟩⟩
    · rw [el, hd2, nI_1, show (0 : Int32) = nI 0 from rfl, nI_leI (by omega) (by omega)]
      omega
    · rw [el, e29, e76, hd2, hk2, nI_1, nI_pred, pk_sub (Nat.le_refl d), Nat.sub_self, nI_ltI (by omega) (by omega)]
      omega
  · have el : tellS S c n (132 + 10 * c' + n') = S (132 + 10 * c' + n') := by
      simp only [tellS]
      repeat' split
      all_goals first | rfl | omega | (simp_all; done)
    show (¬ tellS S c n (132 + 10 * c' + n') ≤ 0 ∧ ¬ tellS S c n (29 + c') < tellS S c n 76 - (tellS S c n (132 + 10 * c' + n') - 1)) ↔ _
    rw [el, e29, e76]
    exact ⟨Or.inr, fun q => q.elim (fun q => absurd q h) id⟩
theorem bq_ext {x y : Int32} (h : ∀ n, n < 32 → (bq x (nI n) ↔ bq y (nI n))) : x = y := b_ext (fun i hi => by
  have := h i hi
  rw [bq_bt hi, bq_bt hi] at this
  exact Bool.eq_iff_iff.mpr this)
theorem tellS_kns {S : Nat → Int32} {c n c' C N : Nat} (hd : dOK S) (hkp : kpOK S C) (hC : C ≤ 8) (hN : N ≤ 10) (hc : c < C) (hn : n < N) (hc' : c' < C) : kns (tellS S c n) N c' = if c' = c then kns S N c' ||| bs n else kns S N c' := by
  refine bq_ext (fun i hi => ?_)
  rw [bq_kns hN hi]
  by_cases e : c' = c
  · rw [if_pos e, bq_or hi, bq_kns hN hi, bq_bs (by omega) hi]
    constructor
    · rintro ⟨h1, h2⟩
      rcases (tellS_kn hd hkp hC hN hc hn hc' h1).mp h2 with q | q
      · exact Or.inr q.2
      · exact Or.inl ⟨h1, q⟩
    · rintro (⟨h1, h2⟩ | h)
      · exact ⟨h1, (tellS_kn hd hkp hC hN hc hn hc' h1).mpr (Or.inr h2)⟩
      · subst h
        exact ⟨hn, (tellS_kn hd hkp hC hN hc hn hc' hn).mpr (Or.inl ⟨e, rfl⟩)⟩
  · rw [if_neg e, bq_kns hN hi]
    constructor
    · rintro ⟨h1, h2⟩
      rcases (tellS_kn hd hkp hC hN hc hn hc' h1).mp h2 with q | q
      · exact absurd q.1 e
      · exact ⟨h1, q⟩
    · rintro ⟨h1, h2⟩
      exact ⟨h1, (tellS_kn hd hkp hC hN hc hn hc' h1).mpr (Or.inr h2)⟩
theorem kns_bs {S : Nat → Int32} {c n N : Nat} (hN : N ≤ 10) (hn : n < N) : kns S N c &&& bs n = if kn S c n then bs n else 0 := by
  refine bq_ext (fun i hi => ?_)
  rw [bq_and hi, bq_kns hN hi, bq_bs (by omega) hi]
  by_cases h : kn S c n
  · rw [if_pos h, bq_bs (by omega) hi]
    constructor
    · exact fun q => q.2
    · intro q
      subst q
      exact ⟨⟨hn, h⟩, rfl⟩
  · rw [if_neg h]
    constructor
    · rintro ⟨⟨q1, q2⟩, q3⟩
      subst q3
      exact absurd q2 h
    · intro q
      exact absurd q (bq_z hi)
/-- comes: she knows it, from today on -/
theorem sl_comes {a c n : Nat} (w : nc_H) (hc : c < 8) (hn : n < 10) : nc_Call m_X7_comes [lO a, .inl (nI c), .inl (nI n)] w = some (none, row (row w 554 a (upd (w.1 554 a) c (w.1 554 a c ||| bs n))) 553 a (upd (w.1 553 a) (10 * c + n) (w.1 7 a 1))) := by
  have e : nI c * 10 + nI n = nI (10 * c + n) := by
    rw [show (10 : Int32) = nI 10 from rfl, pk_mul, nI_add, Nat.mul_comm]
  rw [qc_X7_comes, bd8 c 8 hc (by decide), bd8 c 8 hc (by decide), nc_lt_v, nc_bd_of (10 * c + n) e (by omega) (by decide), nc_lt_v]
  simp only [si_rw]
  rw [row_t (show (553 : Nat) ≠ 554 by decide), row_t (show (7 : Nat) ≠ 554 by decide)]
  rfl
/-- the heap behind hear -/
def hearW (w : nc_H) (a c n : Nat) (war : Prop) [Decidable war] : nc_H :=
  let w1 := row w 556 a (upd (w.1 556 a) c (w.1 556 a c ||| (w.1 554 a c &&& bs n)))
  let w2 := row w1 555 a (upd (w.1 555 a) c (w.1 555 a c ||| bs n))
  let w3 := row w2 554 a (upd (w.1 554 a) c (w.1 554 a c ||| bs n))
  let w4 := row w3 553 a (upd (w.1 553 a) (10 * c + n) (w.1 7 a 1))
  let w5 := if war then row w4 558 a (upd (w.1 558 a) c (w.1 7 a 1)) else w4
  row w5 7 a (upd (w.1 7 a) 2 (w.1 7 a 2 + 1))
theorem sl_hear {a c n : Nat} (w : nc_H) (hc : c < 8) (hn : n < 10) : nc_Call m_X7_hear [lO a, .inl (nI c), .inl (nI n)] w = some (none, hearW w a c n (w.1 242 (nc_ld a) n = 2)) := by
  have hb : (1 <<< (nI n &&& 31) : Int32) = bs n := rfl
  rw [qc_X7_hear, nc_li_v, bd8 c 8 hc (by decide), bd8 c 8 hc (by decide), bd8 c 8 hc (by decide), nc_lt_v, bd8 c 8 hc (by decide), bd8 c 8 hc (by decide), nc_lt_v, sl_comes _ hc hn, nc_bV_v, bd8 n 10 hn (by decide)]
  simp only [si_rw, hb]
  have e1 : ∀ (x y z u : Nat → Int32), (row (row (row (row w 556 a x) 555 a y) 554 a z) 553 a u).1 242 = w.1 242 := by
    intro x y z u
    rw [row_t (by decide), row_t (by decide), row_t (by decide), row_t (by decide)]
  have e7 : ∀ (x y z u : Nat → Int32), (row (row (row (row w 556 a x) 555 a y) 554 a z) 553 a u).1 7 = w.1 7 := by
    intro x y z u
    rw [row_t (by decide), row_t (by decide), row_t (by decide), row_t (by decide)]
  have e58 : ∀ (x y z u : Nat → Int32), (row (row (row (row w 556 a x) 555 a y) 554 a z) 553 a u).1 558 = w.1 558 := by
    intro x y z u
    rw [row_t (by decide), row_t (by decide), row_t (by decide), row_t (by decide)]
  have f1 : ∀ (x : Nat → Int32), (row w 556 a x).1 555 = w.1 555 := fun x => row_t (by decide)
  have f2 : ∀ (x y : Nat → Int32), (row (row w 556 a x) 555 a y).1 554 = w.1 554 := fun x y => by rw [row_t (by decide), row_t (by decide)]
  have f3 : ∀ (x y : Nat → Int32), (row (row w 556 a x) 555 a y).1 553 = w.1 553 := fun x y => by rw [row_t (by decide), row_t (by decide)]
  have f4 : ∀ (x y : Nat → Int32), (row (row w 556 a x) 555 a y).1 7 = w.1 7 := fun x y => by rw [row_t (by decide), row_t (by decide)]
  simp only [f1, f2, f3, f4, e1, e7, e58]
  unfold hearW
  dsimp only
  by_cases h2 : w.1 242 (nc_ld a) n = 2
  · rw [if_neg (fun q => q h2), bd8 c 8 hc (by decide), nc_lt_v, nc_lt_v, if_pos h2, row_t (show (7 : Nat) ≠ 558 by decide), e7]
  · rw [if_pos h2, nc_lt_v, if_neg h2]
theorem row_f {w : nc_H} {t a t' a' k : Nat} {f : Nat → Int32} (h : t' ≠ t) : (row w t a f).1 t' a' k = w.1 t' a' k := by rw [row_t h]
section HW
variable {w : nc_H} {a c n : Nat}
theorem hw_eqO {war : Prop} [Decidable war] : eqO (lQ a) w (hearW w a c n war) := by
  unfold hearW
  dsimp only
  refine eqO.row ?_ ⟨rfl, Or.inl rfl⟩
  by_cases h : war
  · rw [if_pos h]
    exact ((((eqO.rf.row ⟨rfl, Or.inr (Or.inl ⟨by decide, by decide⟩)⟩).row ⟨rfl, Or.inr (Or.inl ⟨by decide, by decide⟩)⟩).row ⟨rfl, Or.inr (Or.inl ⟨by decide, by decide⟩)⟩).row ⟨rfl, Or.inr (Or.inl ⟨by decide, by decide⟩)⟩).row ⟨rfl, Or.inr (Or.inl ⟨by decide, by decide⟩)⟩
  · rw [if_neg h]
    exact (((eqO.rf.row ⟨rfl, Or.inr (Or.inl ⟨by decide, by decide⟩)⟩).row ⟨rfl, Or.inr (Or.inl ⟨by decide, by decide⟩)⟩).row ⟨rfl, Or.inr (Or.inl ⟨by decide, by decide⟩)⟩).row ⟨rfl, Or.inr (Or.inl ⟨by decide, by decide⟩)⟩
theorem hw_7 {war : Prop} [Decidable war] : (hearW w a c n war).1 7 a = upd (w.1 7 a) 2 (w.1 7 a 2 + 1) := by
  unfold hearW
  dsimp only
  rw [row_s]
theorem hw_o {war : Prop} [Decidable war] {t : Nat} (h7 : t ≠ 7) (h1 : t ≠ 553) (h2 : t ≠ 554) (h3 : t ≠ 555) (h4 : t ≠ 556) (h5 : t ≠ 558) : (hearW w a c n war).1 t = w.1 t := by
  unfold hearW
  dsimp only
  rw [row_t h7]
  by_cases h : war
  · rw [if_pos h, row_t h5, row_t h1, row_t h2, row_t h3, row_t h4]
  · rw [if_neg h, row_t h1, row_t h2, row_t h3, row_t h4]
theorem hw_558 {war : Prop} [Decidable war] : (hearW w a c n war).1 558 a = if war then upd (w.1 558 a) c (w.1 7 a 1) else w.1 558 a := by
  unfold hearW
  dsimp only
  rw [row_t (by decide)]
  by_cases h : war
  · rw [if_pos h, if_pos h, row_s]
  · rw [if_neg h, if_neg h, row_t (by decide), row_t (by decide), row_t (by decide), row_t (by decide)]
theorem hw_in {war : Prop} [Decidable war] {t : Nat} (h7 : t ≠ 7) (h5 : t ≠ 558) : (hearW w a c n war).1 t = (row (row (row (row w 556 a (upd (w.1 556 a) c (w.1 556 a c ||| (w.1 554 a c &&& bs n)))) 555 a (upd (w.1 555 a) c (w.1 555 a c ||| bs n))) 554 a (upd (w.1 554 a) c (w.1 554 a c ||| bs n))) 553 a (upd (w.1 553 a) (10 * c + n) (w.1 7 a 1))).1 t := by
  unfold hearW
  dsimp only
  rw [row_t h7]
  by_cases h : war
  · rw [if_pos h, row_t h5]
  · rw [if_neg h]
theorem hw_553 {war : Prop} [Decidable war] : (hearW w a c n war).1 553 a = upd (w.1 553 a) (10 * c + n) (w.1 7 a 1) := by
  rw [hw_in (by decide) (by decide), row_s]
theorem hw_554 {war : Prop} [Decidable war] : (hearW w a c n war).1 554 a = upd (w.1 554 a) c (w.1 554 a c ||| bs n) := by
  rw [hw_in (by decide) (by decide), row_t (by decide), row_s]
theorem hw_555 {war : Prop} [Decidable war] : (hearW w a c n war).1 555 a = upd (w.1 555 a) c (w.1 555 a c ||| bs n) := by
  rw [hw_in (by decide) (by decide), row_t (by decide), row_t (by decide), row_s]
theorem hw_556 {war : Prop} [Decidable war] : (hearW w a c n war).1 556 a = upd (w.1 556 a) c (w.1 556 a c ||| (w.1 554 a c &&& bs n)) := by
  rw [hw_in (by decide) (by decide), row_t (by decide), row_t (by decide), row_t (by decide), row_s]
end HW
