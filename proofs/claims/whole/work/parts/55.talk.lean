/-! TALK OF THE CLASS. -/
section TK
variable {w : nc_H} {a d f C N h i : Nat} {S : Nat → Int32}
theorem s_fill {t n : Nat} (hk : nc_ak t = 0) (hl : nc_al t = n) (hn : n < 2 ^ 31) (x : Int32) : nc_Call m_J7_fill_53178 [.inr (.inr (t, a)), .inl x] w = some (none, row w t a (fun k => if k < n then x else w.1 t a k)) := by
  rw [qc_J7_fill_53178, hk, hl]
  show nc_Run m_J7_fill_53178 5 [some (.inr (.inr (t, a))), some (.inl x), some (.inl (nI 0)), some (.inl (nI n))] [] w = _
  refine lp (R := fun i (v : nc_H) => nc_Run m_J7_fill_53178 5 [some (.inr (.inr (t, a))), some (.inl x), some (.inl (nI i)), some (.inl (nI n))] [] v) (I := fun i v => v = row w t a (fun k => if k < i then x else w.1 t a k)) (n := n) (Q := fun r => r = some (none, row w t a (fun k => if k < n then x else w.1 t a k))) ?_ ?_ n 0 w (by omega) ?_
  · rintro i v hi rfl
    right
    have hgi : ¬ n ≤ i := by omega
    refine ⟨_, ?_, rfl⟩
    show nc_Run m_J7_fill_53178 5 _ _ _ = nc_Run m_J7_fill_53178 5 _ _ _
    rw [qr_J7_fill_53178_5, hk, hl, if_neg (nI_ge hi hn), show Nat.beq 0 0 = true from rfl, cond_true]
    simp (disch := omega) only [↓nc_lt_v, ↓nc_li_v, ↓nc_bI_v, ↓nc_bV_v, ↓nc_bL_v, ↓nc_ll_v, ↓bd8, ↓reduceIte, ↓nc_z_tI, ↓nc_z_0, ↓nc_z_1, nI_leI, nI_ltI, nI_1, tI_ne, tI_eq0, ne_eq, not_true_eq_false, not_false_eq_true, Decidable.not_not, hgi, si_rw, row_r, row_s]
    congr 2
    funext k
    unfold upd
    by_cases e : k = i
    · rw [if_pos e, if_pos (by omega)]
    · have : k < i + 1 ↔ k < i := by omega
      rw [if_neg e]
      simp only [this]
  · rintro v rfl
    show nc_Run m_J7_fill_53178 5 _ _ _ = _
    rw [qr_J7_fill_53178_5, if_pos (nI_le (Nat.le_refl _) hn)]
  · have : (fun k => if k < 0 then x else w.1 t a k) = w.1 t a := funext fun k => if_neg (Nat.not_lt_zero k)
    rw [this, row_id]
/-- the hedges that talk today, as bits -/
def tkb (S : Nat → Int32) (h : Nat) : Int32 := it (fun i (x : Int32) => x ||| (if tk S i then bs i else 0)) 0 h 0
theorem bq_tkb {k : Nat} (hh : h ≤ 6) (hk : k < 32) : bq (tkb S h) (nI k) ↔ k < h ∧ tk S k := by
  unfold tkb
  rw [it_bits (P := fun i => tk S i) (N := h) (by omega) h 0 0 (by omega) k hk]
  exact ⟨fun q => q.elim (fun q => absurd q (bq_z hk)) (fun q => q.2), fun q => Or.inr ⟨by omega, q⟩⟩
theorem sl_talking (hD : DR w (nc_ld a) S f C N h) (hL : LT w a S) (hev : ∀ k, k < h → ∃ e, 1 ≤ e ∧ e ≤ 9 ∧ S (70 + k) = nI e) : nc_Call m_X7_talking [lO a] w = some (some (.inl (tkb S h)), w) := by
  have hh : h ≤ 6 := hD.1.2.2.2.2.2.2.2
  have e4 : w.1 2 (nc_ld a) 4 = nI h := hD.2.1.2.2.2.1
  have e1 : w.1 7 a 1 = S 76 := hL.1.1
  rw [qc_X7_talking]
  have key := it_loop (R := fun i (x : Int32) => nc_Run m_X7_talking 4 [some (lO a), some (.inl x), some (.inl (nI i)), none] [] w) (st := fun i (x : Int32) => x ||| (if tk S i then bs i else 0)) (I := fun _ _ => True) (n := h) (out := fun x => some (some (.inl x), w)) ?_ ?_ h 0 0 (by omega) trivial
  · exact key
  · intro i x hi _
    refine ⟨?_, trivial⟩
    obtain ⟨e, q1, q2, q3⟩ := hev i hi
    have hgi : ¬ h ≤ i := by omega
    have e6 : w.1 246 (nc_ld a) i = S (70 + i) := (hD.2.2.2.2 i hi).2.2
    have n1 : ¬ S (70 + i) ≤ 0 := by rw [q3]; exact nI_nle (by omega) (by omega)
    have n2 : ¬ S (70 + i) = 0 := by rw [q3]; exact nI_ne0 (by omega) (by omega)
    show nc_Run m_X7_talking 4 _ _ w = nc_Run m_X7_talking 4 _ _ w
    rw [qr_X7_talking_4]
    by_cases k1 : tk S i
    · simp (disch := omega) only [↓nc_lt_v, ↓nc_li_v, ↓nc_bI_v, ↓nc_bV_v, ↓nc_bL_v, ↓nc_ll_v, ↓bd8, ↓reduceIte, ↓nc_z_tI, ↓nc_z_0, ↓nc_z_1, nI_leI, nI_ltI, nI_1, tI_ne, tI_eq0, ne_eq, not_true_eq_false, not_false_eq_true, Decidable.not_not, e4, hgi, e6, eq_false n1, eq_false n2, e1, eq_true k1]
      rfl
    · simp (disch := omega) only [↓nc_lt_v, ↓nc_li_v, ↓nc_bI_v, ↓nc_bV_v, ↓nc_bL_v, ↓nc_ll_v, ↓bd8, ↓reduceIte, ↓nc_z_tI, ↓nc_z_0, ↓nc_z_1, nI_leI, nI_ltI, nI_1, tI_ne, tI_eq0, ne_eq, not_true_eq_false, not_false_eq_true, Decidable.not_not, e4, hgi, e6, eq_false n1, eq_false n2, e1, eq_false k1, or_0]
  · intro x _
    show nc_Run m_X7_talking 4 _ _ w = _
    rw [qr_X7_talking_4]
    simp (disch := omega) only [↓nc_lt_v, ↓nc_li_v, ↓nc_bI_v, ↓nc_bV_v, ↓nc_bL_v, ↓nc_ll_v, ↓bd8, ↓reduceIte, ↓nc_z_tI, ↓nc_z_0, ↓nc_z_1, nI_leI, nI_ltI, nI_1, tI_ne, tI_eq0, ne_eq, not_true_eq_false, not_false_eq_true, Decidable.not_not, e4, Nat.le_refl]
theorem fkp_s {x : Int32} : it (fun c (a : Int32) => a ||| (if S (5 + c) = x then kns S N c else 0)) 0 (i + 1) 0 = it (fun c (a : Int32) => a ||| (if S (5 + c) = x then kns S N c else 0)) 0 i 0 ||| (if S (5 + i) = x then kns S N i else 0) := by
  rw [it_succ, Nat.zero_add]
/-- the rows of Life a that talk changes -/
def lT (a t a' : Nat) : Prop := a' = a ∧ (t = 553 ∨ t = 554 ∨ t = 563 ∨ t = 564)
/-- all that comes to cow c: news that are bits of x -/
theorem sl_allComes {c : Nat} (x : Int32) (hN : N ≤ 10) (hc : c < 8) (e3 : w.1 2 (nc_ld a) 3 = nI N) : ∃ w', nc_Call m_X7_allComes [lO a, .inl (nI c), .inl x] w = some (none, w') ∧ eqO (fun t a' => a' = a ∧ (t = 553 ∨ t = 554)) w w' ∧ (∀ c', c' ≠ c → w'.1 554 a c' = w.1 554 a c') ∧ (∀ n, n < 32 → (bq (w'.1 554 a c) (nI n) ↔ bq (w.1 554 a c) (nI n) ∨ (n < N ∧ bq x (nI n)))) ∧ (∀ k, w'.1 553 a k = if 10 * c ≤ k ∧ k < 10 * c + N ∧ bq x (nI (k - 10 * c)) then w.1 7 a 1 else w.1 553 a k) := by
  rw [qc_X7_allComes]
  refine lp (R := fun i (v : nc_H) => nc_Run m_X7_allComes 2 [some (lO a), some (.inl (nI c)), some (.inl x), some (.inl (nI i))] [] v) (I := fun i w' => eqO (fun t a' => a' = a ∧ (t = 553 ∨ t = 554)) w w' ∧ (∀ c', c' ≠ c → w'.1 554 a c' = w.1 554 a c') ∧ (∀ n, n < 32 → (bq (w'.1 554 a c) (nI n) ↔ bq (w.1 554 a c) (nI n) ∨ (n < i ∧ bq x (nI n)))) ∧ (∀ k, w'.1 553 a k = if 10 * c ≤ k ∧ k < 10 * c + i ∧ bq x (nI (k - 10 * c)) then w.1 7 a 1 else w.1 553 a k)) (n := N) (Q := fun r => ∃ w', r = some (none, w') ∧ eqO (fun t a' => a' = a ∧ (t = 553 ∨ t = 554)) w w' ∧ (∀ c', c' ≠ c → w'.1 554 a c' = w.1 554 a c') ∧ (∀ n, n < 32 → (bq (w'.1 554 a c) (nI n) ↔ bq (w.1 554 a c) (nI n) ∨ (n < N ∧ bq x (nI n)))) ∧ (∀ k, w'.1 553 a k = if 10 * c ≤ k ∧ k < 10 * c + N ∧ bq x (nI (k - 10 * c)) then w.1 7 a 1 else w.1 553 a k)) ?_ ?_ N 0 w (by omega) ?_
  · rintro i v hi ⟨q1, q2, q3, q4⟩
    right
    have hgi : ¬ N ≤ i := by omega
    have e3v : v.1 2 (nc_ld a) 3 = nI N := by rw [q1.2 2 _ (fun q => by have := q.2; omega)]; exact e3
    have e7v : v.1 7 a = w.1 7 a := q1.2 7 a (fun q => by have := q.2; omega)
    by_cases b : bq x (nI i)
    · refine ⟨_, ?_, (q1.row (t := 554) (a := a) (f := upd (v.1 554 a) c (v.1 554 a c ||| bs i)) ⟨rfl, Or.inr rfl⟩).row (t := 553) (a := a) (f := upd (v.1 553 a) (10 * c + i) (v.1 7 a 1)) ⟨rfl, Or.inl rfl⟩, fun c' hc' => ?_, fun n hn => ?_, fun k => ?_⟩
      · show nc_Run m_X7_allComes 2 _ _ _ = nc_Run m_X7_allComes 2 _ _ _
        rw [qr_X7_allComes_2]
        simp (disch := omega) only [↓sl_comes, ↓nc_lt_v, ↓nc_li_v, ↓nc_bI_v, ↓nc_bV_v, ↓nc_bL_v, ↓nc_ll_v, ↓bd8, ↓reduceIte, ↓nc_z_tI, ↓nc_z_0, ↓nc_z_1, nI_leI, nI_ltI, nI_1, tI_ne, tI_eq0, ne_eq, not_true_eq_false, not_false_eq_true, Decidable.not_not, e3v, hgi, eq_true b]
      · rw [row_t (by decide), row_s, upd_n hc', q2 c' hc']
      · rw [row_t (by decide), row_s, upd_s, bq_or hn, q3 n hn, bq_bs (by omega) hn]
        constructor
        · rintro ((q | q) | q)
          · exact Or.inl q
          · exact Or.inr ⟨by omega, q.2⟩
          · subst q
            exact Or.inr ⟨by omega, b⟩
        · rintro (q | q)
          · exact Or.inl (Or.inl q)
          · by_cases e : n = i
            · exact Or.inr e
            · exact Or.inl (Or.inr ⟨by omega, q.2⟩)
      · rw [row_s]
        unfold upd
        by_cases e : k = 10 * c + i
        · have : k - 10 * c = i := by omega
          rw [if_pos e, this, if_pos (And.intro (by omega) (And.intro (by omega) b)), e7v]
        · have : k < 10 * c + (i + 1) ↔ k < 10 * c + i := by omega
          rw [if_neg e, q4]
          simp only [this]
    · refine ⟨v, ?_, q1, q2, fun n hn => ?_, fun k => ?_⟩
      · show nc_Run m_X7_allComes 2 _ _ _ = nc_Run m_X7_allComes 2 _ _ _
        rw [qr_X7_allComes_2]
        simp (disch := omega) only [↓nc_lt_v, ↓nc_li_v, ↓nc_bI_v, ↓nc_bV_v, ↓nc_bL_v, ↓nc_ll_v, ↓bd8, ↓reduceIte, ↓nc_z_tI, ↓nc_z_0, ↓nc_z_1, nI_leI, nI_ltI, nI_1, tI_ne, tI_eq0, ne_eq, not_true_eq_false, not_false_eq_true, Decidable.not_not, e3v, hgi, eq_false b]
      · rw [q3 n hn]
        refine or_congr_right ⟨fun q => ⟨by omega, q.2⟩, fun q => ⟨?_, q.2⟩⟩
        have : n ≠ i := fun e => b (e ▸ q.2)
        omega
      · rw [q4]
        by_cases e : k = 10 * c + i
        · have : k - 10 * c = i := by omega
          rw [this, if_neg (fun q => b q.2.2), if_neg (fun q => b q.2.2)]
        · have : k < 10 * c + (i + 1) ↔ k < 10 * c + i := by omega
          simp only [this]
  · rintro v ⟨q1, q2, q3, q4⟩
    have e3v : v.1 2 (nc_ld a) 3 = nI N := by rw [q1.2 2 _ (fun q => by have := q.2; omega)]; exact e3
    refine ⟨v, ?_, q1, q2, q3, q4⟩
    show nc_Run m_X7_allComes 2 _ _ _ = _
    rw [qr_X7_allComes_2]
    simp (disch := omega) only [↓nc_lt_v, ↓nc_li_v, ↓nc_bI_v, ↓nc_bV_v, ↓nc_bL_v, ↓nc_ll_v, ↓bd8, ↓reduceIte, ↓nc_z_tI, ↓nc_z_0, ↓nc_z_1, nI_leI, nI_ltI, nI_1, tI_ne, tI_eq0, ne_eq, not_true_eq_false, not_false_eq_true, Decidable.not_not, e3v, Nat.le_refl]
  · exact ⟨eqO.rf, fun _ _ => rfl, fun n hn => ⟨Or.inl, fun q => q.elim id (fun q => absurd q.1 (Nat.not_lt_zero _))⟩, fun k => by rw [if_neg (by omega)]⟩
end TK
