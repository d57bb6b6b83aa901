/-! WHOLE ROWS of a heap; telling. -/
def row (w : nc_H) (t a : Nat) (f : Nat → Int32) : nc_H := (fun t' a' => if t' = t ∧ a' = a then f else w.1 t' a', w.2)
theorem si_rw {w : nc_H} {t a k : Nat} {x : Int32} : nc_si w t a k x = row w t a (upd (w.1 t a) k x) := by
  unfold nc_si row
  congr 1
  funext t' a' k'
  unfold upd
  by_cases h : t' = t ∧ a' = a
  · obtain ⟨rfl, rfl⟩ := h
    simp
  · rw [if_neg h, if_neg (fun q => h ⟨q.1, q.2.1⟩)]
theorem row_s {w : nc_H} {t a : Nat} {f : Nat → Int32} : (row w t a f).1 t a = f := if_pos ⟨rfl, rfl⟩
theorem row_t {w : nc_H} {t a t' : Nat} {f : Nat → Int32} (h : t' ≠ t) : (row w t a f).1 t' = w.1 t' := by
  funext a'
  exact if_neg (fun q => h q.1)
theorem row_n {w : nc_H} {t a t' a' : Nat} {f : Nat → Int32} (h : ¬ (t' = t ∧ a' = a)) : (row w t a f).1 t' a' = w.1 t' a' := if_neg h
theorem row_2 {w : nc_H} {t a : Nat} {f : Nat → Int32} : (row w t a f).2 = w.2 := rfl
theorem row_r {w : nc_H} {t a : Nat} {f g : Nat → Int32} : row (row w t a f) t a g = row w t a g := by
  unfold row
  congr 1
  funext t' a'
  by_cases h : t' = t ∧ a' = a
  · rw [if_pos h, if_pos h]
  · rw [if_neg h, if_neg h]
    exact if_neg h
theorem upd_s {f : Nat → Int32} {k : Nat} {x : Int32} : upd f k x k = x := if_pos rfl
theorem upd_n {f : Nat → Int32} {k j : Nat} {x : Int32} (h : j ≠ k) : upd f k x j = f j := if_neg h
/-- s behind a telling of news n to cow c -/
def tellS (S : Nat → Int32) (c n : Nat) : Nat → Int32 := fun k =>
  if k = 108 + c ∧ kn S c n then S k ||| bs n else if k = 100 + c then S k ||| bs n else if k = 132 + 10 * c + n then S 76 + 1 else if k = 124 + c ∧ S (37 + n) = 2 then S 76 + 1 else if k = 99 then S 99 + 1 else S k
theorem pl_bd3 {c n : Nat} {k : Nat → Option nc_R} (hc : c < 8) (hn : n < 10) : nc_bd ((132 + (10 * nI c)) + nI n) 513 k = k (132 + 10 * c + n) := pl_bd2 hc hn
theorem sm_tells {c n : Nat} (w : nc_H) (hc : c < 8) (hn : n < 10) : nc_Call m_X12_tells [mO, .inl (nI c), .inl (nI n)] w = some (none, row w 874 0 (tellS (w.1 874 0) c n)) := by
  rw [qc_X12_tells, sm_knows w hc hn, nc_bI_v]
  generalize hS : w.1 874 0 = S
  have hb : (1 <<< (nI n &&& 31) : Int32) = bs n := rfl
  by_cases hk : kn S c n
  · rw [if_neg (tI_ne.mpr hk), pl_bd 108 c (by omega), pl_bd 108 c (by omega), nc_lt_v, pl_bd 100 c (by omega), pl_bd 100 c (by omega), nc_lt_v, pl_bd2 hc hn, nc_lt_v, pl_bd 37 n (by omega)]
    simp only [nc_lt_v, si_rw, row_s, row_r, hS, hb]
    rw [upd_n (show 37 + n ≠ 132 + 10 * c + n by omega), upd_n (show 37 + n ≠ 100 + c by omega), upd_n (show 37 + n ≠ 108 + c by omega)]
    by_cases h2 : S (37 + n) = 2
    · rw [if_neg (fun q => q h2), pl_bd 124 c (by omega)]
      refine congrArg (fun f => some (none, row w 874 0 f)) (funext fun k => ?_)
      simp only [upd, tellS]
      repeat' split
      all_goals first | rfl | omega | (simp_all; done) | (simp_all; omega)
    · rw [if_pos h2]
      refine congrArg (fun f => some (none, row w 874 0 f)) (funext fun k => ?_)
      simp only [upd, tellS]
      repeat' split
      all_goals first | rfl | omega | (simp_all; done) | (simp_all; omega)
  · rw [if_pos (tI_eq0.mpr hk), pl_bd 100 c (by omega), pl_bd 100 c (by omega), nc_lt_v, pl_bd2 hc hn, nc_lt_v, pl_bd 37 n (by omega)]
    simp only [nc_lt_v, si_rw, row_s, row_r, hS, hb]
    rw [upd_n (show 37 + n ≠ 132 + 10 * c + n by omega), upd_n (show 37 + n ≠ 100 + c by omega)]
    by_cases h2 : S (37 + n) = 2
    · rw [if_neg (fun q => q h2), pl_bd 124 c (by omega)]
      refine congrArg (fun f => some (none, row w 874 0 f)) (funext fun k => ?_)
      simp only [upd, tellS]
      repeat' split
      all_goals first | rfl | omega | (simp_all; done) | (simp_all; omega)
    · rw [if_pos h2]
      refine congrArg (fun f => some (none, row w 874 0 f)) (funext fun k => ?_)
      simp only [upd, tellS]
      repeat' split
      all_goals first | rfl | omega | (simp_all; done) | (simp_all; omega)
