/-! WHAT A LIFE SAYS OF MILK is what the model says. -/
section SL
variable {w : nc_H} {a c i f C N h : Nat} {S : Nat → Int32}
theorem so_tail (oth x : Int32) (hD : DR w (nc_ld a) S f C N h) (hL : LT w a S) (hc : c < C) (hi : i < N) :
  (nc_bd (nI c) 8 fun j2 =>
      if (((w.1 557 a j2) >>> (nI i &&& 31)) &&& 1) ≠ 1 then
        nc_li (nI i + 1) fun x3 =>
        nc_Run m_X7_sumOf 19 [some (.inr (.inr (7, a))), some (.inl (nI c)), some (.inl x), some (.inl oth), some (.inl x3)] [] w
      else
        nc_bd (nI i) 10 fun j4 =>
        if (w.1 242 (nc_ld a) j4) ≠ 3 then
          nc_li (nI i + 1) fun x5 =>
          nc_Run m_X7_sumOf 19 [some (.inr (.inr (7, a))), some (.inl (nI c)), some (.inl x), some (.inl oth), some (.inl x5)] [] w
        else
          if (((w.1 2 (nc_ld a) 6) >>> (nI i &&& 31)) &&& 1) ≠ 1 then
            nc_bd (nI i) 10 fun j6 =>
            nc_li (x + (w.1 243 (nc_ld a) j6)) fun x7 =>
            nc_li (nI i + 1) fun x8 =>
            nc_Run m_X7_sumOf 19 [some (.inr (.inr (7, a))), some (.inl (nI c)), some (.inl x7), some (.inl oth), some (.inl x8)] [] w
          else
            nc_bd (nI i) 10 fun j9 =>
            nc_li (x + (-(w.1 243 (nc_ld a) j9))) fun x10 =>
            nc_li (nI i + 1) fun x11 =>
            nc_Run m_X7_sumOf 19 [some (.inr (.inr (7, a))), some (.inl (nI c)), some (.inl x10), some (.inl oth), some (.inl x11)] [] w)
  = nc_Run m_X7_sumOf 19 [some (.inr (.inr (7, a))), some (.inl (nI c)), some (.inl (mwe S c i x)), some (.inl oth), some (.inl (nI (i + 1)))] [] w := by
  have hC : C ≤ 8 := hD.1.2.2.2.2.2.1
  have hN : N ≤ 10 := hD.1.2.2.2.2.2.2.1
  have hk : w.1 242 (nc_ld a) i = S (37 + i) := (hD.2.2.2.1 i hi).1
  have hwo : w.1 243 (nc_ld a) i = S (47 + i) := (hD.2.2.2.1 i hi).2
  have e6 : w.1 2 (nc_ld a) 6 = S 57 := hD.2.1.2.2.2.2.2
  have e57 : w.1 557 a c = S (116 + c) := (hL.2 c (by omega)).2.2.1
  unfold mwe
  rw [bd8 c 8 (by omega) (by decide), e57, e6]
  by_cases hb : bq (S (116 + c)) (nI i)
  · rw [if_neg (fun q => q hb), bd8 i 10 (by omega) (by decide), hk]
    by_cases h3 : S (37 + i) = 3
    · rw [if_neg (fun q => q h3), if_pos (And.intro h3 hb)]
      by_cases hl : bq (S 57) (nI i)
      · rw [if_neg (fun q => q hl), bd8 i 10 (by omega) (by decide), nc_li_v, nc_li_v, nI_1, if_pos hl, hwo]
      · rw [if_pos hl, bd8 i 10 (by omega) (by decide), nc_li_v, nc_li_v, nI_1, if_neg hl, hwo]
    · rw [if_pos h3, nc_li_v, nI_1, if_neg (fun q => h3 q.1)]
  · rw [if_pos hb, nc_li_v, nI_1, if_neg (fun q => hb q.2)]
theorem so_step (x : Int32) (hD : DR w (nc_ld a) S f C N h) (hL : LT w a S) (hk : kOK S N) (hc : c < C) (hi : i < N) :
  nc_Run m_X7_sumOf 19 [some (.inr (.inr (7, a))), some (.inl (nI c)), some (.inl x), some (.inl (hbo S C c)), some (.inl (nI i))] [] w
  = nc_Run m_X7_sumOf 19 [some (.inr (.inr (7, a))), some (.inl (nI c)), some (.inl (mst S C c (S (100 + c)) (S (108 + c)) i x)), some (.inl (hbo S C c)), some (.inl (nI (i + 1)))] [] w := by
  have hC : C ≤ 8 := hD.1.2.2.2.2.2.1
  have hN : N ≤ 10 := hD.1.2.2.2.2.2.2.1
  have e3 : w.1 2 (nc_ld a) 3 = nI N := hD.2.1.2.2.1
  have e55 : w.1 555 a c = S (100 + c) := (hL.2 c (by omega)).1
  have e56 : w.1 556 a c = S (108 + c) := (hL.2 c (by omega)).2.1
  rw [qr_X7_sumOf_19, e3, if_neg (by rw [nI_leI (by omega) (by omega)]; omega), bd8 c 8 (by omega) (by decide), e55]
  unfold mst
  by_cases hb : bq (S (100 + c)) (nI i)
  · rw [if_neg (fun q => q hb), bd8 c 8 (by omega) (by decide), e56, sl_addedBy w hD hL hi, nc_bI_v, nc_li_v]
    refine (so_tail _ _ hD hL hc hi).trans ?_
    have e : x + adv S (hbo S C c) (S (108 + c)) i = (if bq (S (100 + c)) (nI i) ∧ ¬ (2 : Int32) ≤ S (37 + i) then (if bq (S (108 + c)) (nI i) then x + mv S C c i / 2 else x + mv S C c i) else x) := by
      unfold adv mv
      have ho : (S (37 + i) = 1 ∧ bq (hbo S C c) (nI i)) ↔ (S (37 + i) = 1 ∧ hos S C c i ≠ 0) := and_congr_right (fun _ => hbo_iff (by omega))
      have ev : (if S (37 + i) = 1 ∧ bq (hbo S C c) (nI i) then mv0 S i * 2 else mv0 S i) = (if S (37 + i) = 1 ∧ hos S C c i ≠ 0 then mv0 S i * 2 else mv0 S i) := by
        by_cases q : S (37 + i) = 1 ∧ bq (hbo S C c) (nI i)
        · rw [if_pos q, if_pos (ho.mp q)]
        · rw [if_neg q, if_neg (fun z => q (ho.mpr z))]
      rw [ev]
      rcases hk i hi with k | k | k | k
      · rw [if_pos (Or.inl k), if_pos (show bq (S (100 + c)) (nI i) ∧ ¬ (2 : Int32) ≤ S (37 + i) from ⟨hb, by rw [k]; decide⟩)]
        by_cases ks : bq (S (108 + c)) (nI i)
        · rw [if_pos ks, if_pos ks]
        · rw [if_neg ks, if_neg ks]
      · rw [if_pos (Or.inr k), if_pos (show bq (S (100 + c)) (nI i) ∧ ¬ (2 : Int32) ≤ S (37 + i) from ⟨hb, by rw [k]; decide⟩)]
        by_cases ks : bq (S (108 + c)) (nI i)
        · rw [if_pos ks, if_pos ks]
        · rw [if_neg ks, if_neg ks]
      · rw [if_neg (by rw [k]; decide), if_neg (show ¬ (bq (S (100 + c)) (nI i) ∧ ¬ (2 : Int32) ≤ S (37 + i)) from fun q => q.2 (by rw [k]; decide)), Int32.add_zero]
      · rw [if_neg (by rw [k]; decide), if_neg (show ¬ (bq (S (100 + c)) (nI i) ∧ ¬ (2 : Int32) ≤ S (37 + i)) from fun q => q.2 (by rw [k]; decide)), Int32.add_zero]
    rw [e]
  · rw [if_pos hb, if_neg (fun q : bq (S (100 + c)) (nI i) ∧ ¬ (2 : Int32) ≤ S (37 + i) => hb q.1)]
    exact so_tail _ _ hD hL hc hi
theorem sl_sumOf (hD : DR w (nc_ld a) S f C N h) (hL : LT w a S) (hk : kOK S N) (hc : c < C) : nc_Call m_X7_sumOf [lO a, .inl (nI c)] w = some (some (.inl (it (mst S C c (S (100 + c)) (S (108 + c))) 0 N (S (13 + c)))), w) := by
  have hC : C ≤ 8 := hD.1.2.2.2.2.2.1
  have hN : N ≤ 10 := hD.1.2.2.2.2.2.2.1
  have e3 : w.1 2 (nc_ld a) 3 = nI N := hD.2.1.2.2.1
  rw [qc_X7_sumOf, bd8 c 8 (by omega) (by decide), (hD.2.2.1 c hc).2.1, nc_li_v, sl_heardByOthers w hD hL hc, nc_bI_v]
  have key := it_loop (R := fun i (x : Int32) => nc_Run m_X7_sumOf 19 [some (.inr (.inr (7, a))), some (.inl (nI c)), some (.inl x), some (.inl (hbo S C c)), some (.inl (nI i))] [] w) (st := mst S C c (S (100 + c)) (S (108 + c))) (I := fun _ _ => True) (n := N) (out := fun x => some (some (.inl x), w)) (fun i x hi _ => ⟨so_step x hD hL hk hc hi, trivial⟩) ?_ N 0 (S (13 + c)) (by omega) trivial
  · exact key
  · intro x _
    show nc_Run m_X7_sumOf 19 _ _ w = _
    rw [qr_X7_sumOf_19, e3, if_pos (by rw [nI_leI (by omega) (by omega)]; omega)]
theorem or_0 (x : Int32) : x ||| 0 = x := b_ext (fun i _ => by rw [b_or, b_0, Bool.or_false])
theorem and_0 (x : Int32) : 0 &&& x = 0 := b_ext (fun i _ => by rw [b_and, b_0, Bool.false_and])
/-- with nothing more told -/
theorem mwi_0 (hN : N ≤ 10) : mwi S C N c 0 = if bq (S 77) (nI c) ∨ cu S c then 0 else mx 0 (it (mst S C c (S (100 + c)) (S (108 + c))) 0 N (S (13 + c))) := by
  unfold mwi mby
  have hw : ¬ war S N 0 := fun ⟨n, h1, h2, _⟩ => bq_z (by omega) h2
  rw [and_0, or_0, or_0]
  by_cases hd : bq (S 77) (nI c) ∨ cu S c
  · rw [if_pos hd, if_pos (hd.elim Or.inl (fun q => Or.inr (Or.inl q)))]
  · rw [if_neg hd, if_neg (fun q => q.elim (fun q => hd (Or.inl q)) (fun q => q.elim (fun q => hd (Or.inr q)) hw))]
theorem mx_max (x : Int32) : (if (0 : Int32) < x then x else (0 : Int32)) = mx 0 x := by
  unfold mx
  by_cases h1 : (0 : Int32) < x
  · rw [if_pos h1, if_pos (Int32.le_of_lt h1)]
  · rw [if_neg h1]
    by_cases h2 : (0 : Int32) ≤ x
    · rw [if_pos h2]
      exact Int32.le_antisymm h2 (Int32.not_lt.mp h1)
    · rw [if_neg h2]
theorem sl_milk (hD : DR w (nc_ld a) S f C N h) (hL : LT w a S) (hk : kOK S N) (hd : dOK S) (hc : c < C) : nc_Call m_X7_milk [lO a, .inl (nI c)] w = some (some (.inl (mwi S C N c 0)), w) := by
  have hC : C ≤ 8 := hD.1.2.2.2.2.2.1
  have hN : N ≤ 10 := hD.1.2.2.2.2.2.2.1
  rw [qc_X7_milk, sl_isDry, nc_bI_v, hL.1.2.1, mwi_0 hN]
  by_cases h1 : bq (S 77) (nI c)
  · rw [if_pos (tI_ne.mpr h1), if_pos (Or.inl h1)]
  · rw [if_neg (fun q => q (tI_eq0.mpr h1)), sl_isCurdled w hL hd (by omega), nc_bI_v]
    by_cases h2 : cu S c
    · rw [if_neg (tI_ne.mpr h2), if_pos (Or.inr h2)]
    · rw [if_pos (tI_eq0.mpr h2), sl_sumOf hD hL hk hc, nc_bI_v, mx_max, if_neg (fun q => q.elim h1 h2)]
end SL
