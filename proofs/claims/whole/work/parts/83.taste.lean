/-! tasted. -/
section TS
variable {w w' v : nc_H} {f C N h d c k fr : Nat} {S : Nat → Int32} {y : Int32}
/-- counts with the news of s one more -/
def ctf (N s : Nat) (g : Nat → Int32) : Nat → Int32 := fun n => if n < N then g n + tI (bq (nI s) (nI n)) else g n
abbrev TT : Type := Nat × Int32 × (Nat → Int32)
def tst (S : Nat → Int32) (C N c k fr : Nat) (y : Int32) (s : Nat) (T : TT) : TT := if s &&& fr = s ∧ ¬ (S 4 - nI (pc k)) < nI (pc s) ∧ mwi S C N c (nI s) = y then (T.1 + 1, T.2.1 &&& nI s, ctf N s T.2.2) else T
theorem tst_le {s : Nat} {T : TT} : (tst S C N c k fr y s T).1 ≤ T.1 + 1 := by
  unfold tst
  split
  · exact Nat.le_refl _
  · exact Nat.le_succ _
theorem sh_countNews {s : Nat} (hN : N ≤ 10) (h3 : w.1 2 0 3 = nI N) : ∃ w', nc_Call m_X1_countNews [hO, .inl (nI s)] w = some (none, w') ∧ eqO (fun t a => t = 167 ∧ a = 0) w w' ∧ ∀ n, n < 10 → w'.1 167 0 n = ctf N s (w.1 167 0) n := by
  rw [qc_X1_countNews]
  refine lp (R := fun i (v : nc_H) => nc_Run m_X1_countNews 2 [some hO, some (.inl (nI s)), some (.inl (nI i))] [] v) (I := fun i v => eqO (fun t a => t = 167 ∧ a = 0) w v ∧ ∀ n, n < 10 → v.1 167 0 n = ctf i s (w.1 167 0) n) (n := N) (Q := fun r => ∃ w', r = some (none, w') ∧ eqO (fun t a => t = 167 ∧ a = 0) w w' ∧ ∀ n, n < 10 → w'.1 167 0 n = ctf N s (w.1 167 0) n) ?_ ?_ N 0 w (by omega) ⟨eqO.rf, fun n _ => by unfold ctf; rw [if_neg (Nat.not_lt_zero n)]⟩
  · rintro i v hi ⟨q1, q2⟩
    right
    refine ⟨row v 167 0 (upd (v.1 167 0) i (v.1 167 0 i + ((nI s >>> (nI i &&& 31)) &&& 1))), ?_, q1.row ⟨rfl, rfl⟩, fun n hn => ?_⟩
    · show nc_Run m_X1_countNews 2 _ _ v = nc_Run m_X1_countNews 2 _ _ _
      rw [qr_X1_countNews_2, q1.2 2 0 (by omega), h3, if_neg (nI_ge hi (by omega)), bd8 i 10 (by omega) (by decide), bd8 i 10 (by omega) (by decide), nc_lt_v, nc_li_v, nI_1, si_rw]
    · by_cases e : n = i
      · subst e
        rw [row_s, upd_s, q2 n hn, bq_found]
        unfold ctf
        rw [if_neg (Nat.lt_irrefl n), if_pos (Nat.lt_succ_self n)]
      · rw [row_s, upd_n e, q2 n hn]
        unfold ctf
        by_cases z : n < i
        · rw [if_pos z, if_pos (by omega)]
        · rw [if_neg z, if_neg (by omega)]
  · rintro v ⟨q1, q2⟩
    refine ⟨v, ?_, q1, q2⟩
    show nc_Run m_X1_countNews 2 _ _ v = _
    rw [qr_X1_countNews_2, q1.2 2 0 (by omega), h3, if_pos (nI_le (Nat.le_refl _) (by omega))]
theorem ctf_c {s : Nat} {g g' : Nat → Int32} (h : ∀ n, n < 10 → g n = g' n) : ∀ n, n < 10 → ctf N s g n = ctf N s g' n := fun n hn => by
  unfold ctf
  rw [h n hn]
theorem sm_count {s : Nat} (hN : N ≤ 10) (h3 : w.1 874 0 2 = nI N) (x z u : Int32) : ∃ w', nc_Run m_X12_tasted 130 [some mO, some (.inl x), some (.inl z), some (.inl u), some (.inl (nI s)), some (.inl (nI 0))] [] w = nc_Run m_X12_tasted 78 [some mO, some (.inl x), some (.inl z), some (.inl u), some (.inl (nI (s + 1))), none] [] w' ∧ eqO (fun t a => t = 902 ∧ a = 0) w w' ∧ ∀ n, n < 10 → w'.1 902 0 n = ctf N s (w.1 902 0) n := by
  refine lp (R := fun i (v : nc_H) => nc_Run m_X12_tasted 130 [some mO, some (.inl x), some (.inl z), some (.inl u), some (.inl (nI s)), some (.inl (nI i))] [] v) (I := fun i v => eqO (fun t a => t = 902 ∧ a = 0) w v ∧ ∀ n, n < 10 → v.1 902 0 n = ctf i s (w.1 902 0) n) (n := N) (Q := fun r => ∃ w', r = nc_Run m_X12_tasted 78 [some mO, some (.inl x), some (.inl z), some (.inl u), some (.inl (nI (s + 1))), none] [] w' ∧ eqO (fun t a => t = 902 ∧ a = 0) w w' ∧ ∀ n, n < 10 → w'.1 902 0 n = ctf N s (w.1 902 0) n) ?_ ?_ N 0 w (by omega) ⟨eqO.rf, fun n _ => by unfold ctf; rw [if_neg (Nat.not_lt_zero n)]⟩
  · rintro i v hi ⟨q1, q2⟩
    right
    refine ⟨row v 902 0 (upd (v.1 902 0) i (v.1 902 0 i + tI (bq (nI s) (nI i)))), ?_, q1.row ⟨rfl, rfl⟩, fun n hn => ?_⟩
    · show nc_Run m_X12_tasted 130 _ _ v = nc_Run m_X12_tasted 130 _ _ _
      rw [qr_X12_tasted_130, q1.2 874 0 (by omega), h3, if_neg (nI_ge hi (by omega)), bd8 i 10 (by omega) (by decide), sm_bitOf, nc_bI_v]
      by_cases b : bq (nI s) (nI i)
      · rw [if_neg (tI_ne.mpr b), bd8 i 10 (by omega) (by decide), nc_lt_v, nc_li_v, nI_1, si_rw, tI_t b]
      · rw [if_pos (tI_eq0.mpr b), bd8 i 10 (by omega) (by decide), nc_lt_v, nc_li_v, nI_1, si_rw, tI_f b]
    · by_cases e : n = i
      · subst e
        rw [row_s, upd_s, q2 n hn]
        unfold ctf
        rw [if_neg (Nat.lt_irrefl n), if_pos (Nat.lt_succ_self n)]
      · rw [row_s, upd_n e, q2 n hn]
        unfold ctf
        by_cases z : n < i
        · rw [if_pos z, if_pos (by omega)]
        · rw [if_neg z, if_neg (by omega)]
  · rintro v ⟨q1, q2⟩
    refine ⟨v, ?_, q1, q2⟩
    show nc_Run m_X12_tasted 130 _ _ v = _
    rw [qr_X12_tasted_130, q1.2 874 0 (by omega), h3, if_pos (nI_le (Nat.le_refl _) (by omega)), nc_li_v, nI_1]
/-! which news tells most -/
def uu (g : Nat → Int32) (F : Int32) (n : Nat) : Int32 := if 0 ≤ 2 * g n - F then 2 * g n - F else 0 - (2 * g n - F)
def evS (g : Nat → Int32) (F : Int32) (n : Nat) (o : Option Nat) : Option Nat := match o with
  | none => some n
  | some b => if uu g F n < uu g F b then some n else some b
def uo (g : Nat → Int32) (F : Int32) (o : Option Nat) : Int32 := match o with
  | none => 0
  | some b => uu g F b
def oB (o : Option Nat) : Prop := ∀ b, o = some b → b < 10
theorem oB_1 {o : Option Nat} (h : oB o) : ∀ b, o = some b → b < 1024 := fun b e => by have := h b e; omega
theorem evS_b {g : Nat → Int32} {F : Int32} {n : Nat} {o : Option Nat} (hn : n < 10) (ho : oB o) : oB (evS g F n o) := by
  intro b e
  cases o with
  | none =>
    simp only [evS, Option.some.injEq] at e
    omega
  | some b' =>
    have := ho b' rfl
    unfold evS at e
    split at e
    · next q => cases q
    · next q =>
      cases q
      split at e <;> (simp only [Option.some.injEq] at e; omega)
theorem abs_eq (x : Int32) : (if 0 ≤ x then x else 0 - x) = (if 0 ≤ -x then -x else -(-x)) := by
  have h0 : (0 : Int32).toInt = 0 := by decide
  have a1 := Int32.toInt_lt x
  have a2 := Int32.le_toInt x
  have e : (-x).toInt = (-x.toInt).bmod (2 ^ 32) := Int32.toInt_neg x
  rw [Int.bmod_def] at e
  by_cases q : 0 ≤ x
  · rw [if_pos q]
    by_cases r : 0 ≤ -x
    · rw [if_pos r]
      rw [Int32.le_iff_toInt_le, h0] at q r
      apply Int32.toInt_inj.mp
      split at e <;> omega
    · rw [if_neg r, Int32.neg_neg]
  · rw [if_neg q, Int32.zero_sub]
    by_cases r : 0 ≤ -x
    · rw [if_pos r]
    · rw [if_neg r, Int32.neg_neg]
      rw [Int32.le_iff_toInt_le, h0] at q r
      apply Int32.toInt_inj.mp
      split at e <;> omega
theorem sm_abs {F u : Int32} : nc_Call m_X12_absolute [.inl (F - u)] w = some (some (.inl (if 0 ≤ u - F then u - F else 0 - (u - F))), w) := by
  rw [qc_X12_absolute, abs_eq, show -(u - F) = F - u from Int32.neg_sub]
  by_cases q : 0 ≤ F - u
  · rw [if_pos q, if_pos q]
  · rw [if_neg q, if_neg q]
theorem sh_mostEven {g : Nat → Int32} {F : Int32} (hN : N ≤ 10) (h3 : w.1 2 0 3 = nI N) (hg : ∀ n, n < 10 → w.1 167 0 n = g n) : nc_Call m_X1_mostEven [hO, .inl F] w = some (some (.inl (lsI (it (evS g F) 0 N none))), w) := by
  rw [qc_X1_mostEven]
  have key := it_loop (R := fun n (o : Option Nat) => nc_Run m_X1_mostEven 7 [some hO, some (.inl F), some (.inl (lsI o)), some (.inl (uo g F o)), some (.inl (nI n)), none] [] w) (st := evS g F) (I := fun _ o => oB o) (n := N) (out := fun o => some (some (.inl (lsI o)), w)) ?_ ?_ N 0 none (by omega) (fun b e => by cases e)
  · exact key
  · intro n o hn ho
    refine ⟨?_, evS_b (by omega) ho⟩
    show nc_Run m_X1_mostEven 7 _ _ w = nc_Run m_X1_mostEven 7 _ _ w
    rw [qr_X1_mostEven_7, h3, if_neg (nI_ge hn (by omega)), bd8 n 10 (by omega) (by decide), hg n (by omega), nc_li_v]
    cases o with
    | none =>
      rw [if_pos (show lsI none = -1 from rfl), nc_li_v, nI_1]
      rfl
    | some b =>
      rw [if_neg (fun q => (lsI_ne (oB_1 ho)).mpr (by simp) q)]
      show (if uu g F b ≤ uu g F n then _ else _) = _
      by_cases q : uu g F n < uu g F b
      · rw [if_neg (Int32.not_le.mpr q), nc_li_v, nI_1]
        show nc_Run m_X1_mostEven 7 _ _ w = nc_Run m_X1_mostEven 7 [_, _, some (.inl (lsI (if uu g F n < uu g F b then some n else some b))), some (.inl (uo g F (if uu g F n < uu g F b then some n else some b))), _, _] _ w
        rw [if_pos q]
        rfl
      · rw [if_pos (Int32.not_lt.mp q), nc_li_v, nI_1]
        show nc_Run m_X1_mostEven 7 _ _ w = nc_Run m_X1_mostEven 7 [_, _, some (.inl (lsI (if uu g F n < uu g F b then some n else some b))), some (.inl (uo g F (if uu g F n < uu g F b then some n else some b))), _, _] _ w
        rw [if_neg q]
  · intro o _
    show nc_Run m_X1_mostEven 7 _ _ w = _
    rw [qr_X1_mostEven_7, h3, if_pos (nI_le (Nat.le_refl _) (by omega))]
theorem sm_even {g : Nat → Int32} {F : Int32} (hN : N ≤ 10) (h3 : w.1 874 0 2 = nI N) (hg : ∀ n, n < 10 → w.1 902 0 n = g n) (h32 : w.1 12 0 32 = -1) : ∃ w', nc_Run m_X12_tasted 202 [some mO, none, some (.inl F), none, some (.inl (nI 0)), none] [] w = some (some (.inl F), w') ∧ eqO (fun t a => t = 12 ∧ a = 0) w w' ∧ (∀ j, j ≠ 32 → w'.1 12 0 j = w.1 12 0 j) ∧ w'.1 12 0 32 = lsI (it (evS g F) 0 N none) := by
  have ob : ∀ i, i ≤ N → oB (it (evS g F) 0 i none) := by
    intro i
    induction i with
    | zero => intro _ b e; cases e
    | succ i ih =>
      intro hi
      rw [it_succ, Nat.zero_add]
      exact evS_b (by omega) (ih (by omega))
  refine lp (R := fun n (v : nc_H) => nc_Run m_X12_tasted 202 [some mO, none, some (.inl F), none, some (.inl (nI n)), none] [] v) (I := fun n v => eqO (fun t a => t = 12 ∧ a = 0) w v ∧ (∀ j, j ≠ 32 → v.1 12 0 j = w.1 12 0 j) ∧ v.1 12 0 32 = lsI (it (evS g F) 0 n none)) (n := N) (Q := fun r => ∃ w', r = some (some (.inl F), w') ∧ eqO (fun t a => t = 12 ∧ a = 0) w w' ∧ (∀ j, j ≠ 32 → w'.1 12 0 j = w.1 12 0 j) ∧ w'.1 12 0 32 = lsI (it (evS g F) 0 N none)) ?_ ?_ N 0 w (by omega) ⟨eqO.rf, fun _ _ => rfl, h32⟩
  · rintro n v hn ⟨q1, q2, q3⟩
    right
    have o1 := ob n (by omega)
    rw [it_succ, Nat.zero_add]
    generalize it (evS g F) 0 n none = o at q3 o1 ⊢
    have v9 : v.1 902 0 = w.1 902 0 := q1.2 902 0 (by omega)
    show ∃ b, nc_Run m_X12_tasted 202 _ _ v = nc_Run m_X12_tasted 202 _ _ b ∧ _
    rw [qr_X12_tasted_202, q1.2 874 0 (by omega), h3, if_neg (nI_ge hn (by omega)), q3]
    cases o with
    | none =>
      rw [if_pos ((lsI_lt (oB_1 o1)).mpr rfl), nc_lt_v, nc_li_v, nI_1, si_rw]
      exact ⟨_, rfl, q1.row ⟨rfl, rfl⟩, fun j hj => by rw [row_s, upd_n hj, q2 j hj], by rw [row_s, upd_s]; rfl⟩
    | some b =>
      have b10 := o1 b rfl
      rw [if_neg (fun z => by cases (lsI_lt (oB_1 o1)).mp z), bd8 n 10 (by omega) (by decide), sm_abs, nc_bI_v, q3]
      show ∃ b', (nc_bd (nI b) 10 fun j6 => nc_bI (nc_Call m_X12_absolute [.inl (F - 2 * (v.1 902 0 j6))] v) fun r8 w7 => _) = _ ∧ _
      rw [bd8 b 10 b10 (by decide), sm_abs, nc_bI_v, v9, hg n (by omega), hg b b10]
      show ∃ b', (if uu g F b ≤ uu g F n then _ else _) = _ ∧ _
      by_cases q : uu g F n < uu g F b
      · rw [if_neg (Int32.not_le.mpr q), nc_lt_v, nc_li_v, nI_1, si_rw]
        refine ⟨_, rfl, q1.row ⟨rfl, rfl⟩, fun j hj => by rw [row_s, upd_n hj, q2 j hj], ?_⟩
        rw [row_s, upd_s]
        show _ = lsI (if uu g F n < uu g F b then some n else some b)
        rw [if_pos q]
        rfl
      · rw [if_pos (Int32.not_lt.mp q), nc_li_v, nI_1]
        refine ⟨v, rfl, q1, q2, ?_⟩
        rw [q3]
        show _ = lsI (if uu g F n < uu g F b then some n else some b)
        rw [if_neg q]
  · rintro v ⟨q1, q2, q3⟩
    refine ⟨v, ?_, q1, q2, q3⟩
    show nc_Run m_X12_tasted 202 _ _ v = _
    rw [qr_X12_tasted_202, q1.2 874 0 (by omega), h3, if_pos (nI_le (Nat.le_refl _) (by omega))]
end TS
