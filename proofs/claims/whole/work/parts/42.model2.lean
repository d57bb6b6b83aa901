/-! THE MODEL'S MILK -/
def mv0 (S : Nat → Int32) (n : Nat) : Int32 := S (47 + n) + (if bq (S 57) (nI n) ∧ ¬ bq (S 78) (nI n) then 5 else 0)
def mv (S : Nat → Int32) (C c n : Nat) : Int32 := if S (37 + n) = 1 ∧ hos S C c n ≠ 0 then mv0 S n * 2 else mv0 S n
/-- what yesterday's weather does -/
def mwe (S : Nat → Int32) (c n : Nat) (x : Int32) : Int32 := if S (37 + n) = 3 ∧ bq (S (116 + c)) (nI n) then (if bq (S 57) (nI n) then x + (-(S (47 + n))) else x + S (47 + n)) else x
def mst (S : Nat → Int32) (C c : Nat) (heard stale : Int32) (n : Nat) (x : Int32) : Int32 := mwe S c n (if bq heard (nI n) ∧ ¬ (2 : Int32) ≤ S (37 + n) then (if bq stale (nI n) then x + mv S C c n / 2 else x + mv S C c n) else x)
def mby (S : Nat → Int32) (C N c : Nat) (heard stale : Int32) : Int32 := mx 0 (it (mst S C c heard stale) 0 N (S (13 + c)))
section MB
variable {w : nc_H} {c i : Nat} {heard stale : Int32}
theorem mb_tail (x : Int32) (hc : c < 8) (hi : i < 10) :
  (if w.1 874 0 (37 + i) ≠ 3 then
      nc_li (nI i + 1) fun x7 =>
      nc_Run m_X12_milkBy 14 [some (.inr (.inr (12, 0))), some (.inl (nI c)), some (.inl heard), some (.inl stale), some (.inl x), some (.inl x7), none, none] [] w
    else
      nc_bd (116 + nI c) 513 fun j8 =>
      nc_bI (nc_Call m_X12_bitOf [.inl (w.1 874 0 j8), .inl (nI i)] w) fun r10 w9 =>
      if r10 = 0 then
        nc_li (nI i + 1) fun x11 =>
        nc_Run m_X12_milkBy 14 [some (.inr (.inr (12, 0))), some (.inl (nI c)), some (.inl heard), some (.inl stale), some (.inl x), some (.inl x11), none, none] [] w9
      else
        nc_bI (nc_Call m_X12_isLie [.inr (.inr (12, 0)), .inl (nI i)] w9) fun r13 w12 =>
        if r13 = 0 then
          nc_bd (47 + nI i) 513 fun j14 =>
          nc_li (x + (w12.1 874 0 j14)) fun x15 =>
          nc_li (nI i + 1) fun x16 =>
          nc_Run m_X12_milkBy 14 [some (.inr (.inr (12, 0))), some (.inl (nI c)), some (.inl heard), some (.inl stale), some (.inl x15), some (.inl x16), none, none] [] w12
        else
          nc_bd (47 + nI i) 513 fun j17 =>
          nc_li (x + (-(w12.1 874 0 j17))) fun x18 =>
          nc_li (nI i + 1) fun x19 =>
          nc_Run m_X12_milkBy 14 [some (.inr (.inr (12, 0))), some (.inl (nI c)), some (.inl heard), some (.inl stale), some (.inl x18), some (.inl x19), none, none] [] w12)
  = nc_Run m_X12_milkBy 14 [some (.inr (.inr (12, 0))), some (.inl (nI c)), some (.inl heard), some (.inl stale), some (.inl (mwe (w.1 874 0) c i x)), some (.inl (nI (i + 1))), none, none] [] w := by
  unfold mwe
  by_cases h3 : w.1 874 0 (37 + i) = 3
  · rw [if_neg (fun q => q h3), pl_bd 116 c (by omega), sm_bitOf, nc_bI_v]
    by_cases hb : bq (w.1 874 0 (116 + c)) (nI i)
    · rw [if_neg (tI_ne.mpr hb), sm_isLie, nc_bI_v, if_pos (And.intro h3 hb)]
      by_cases hl : bq (w.1 874 0 57) (nI i)
      · rw [if_neg (tI_ne.mpr hl), pl_bd 47 i (by omega), nc_li_v, nc_li_v, nI_1, if_pos hl]
      · rw [if_pos (tI_eq0.mpr hl), pl_bd 47 i (by omega), nc_li_v, nc_li_v, nI_1, if_neg hl]
    · rw [if_pos (tI_eq0.mpr hb), nc_li_v, nI_1, if_neg (fun q => hb q.2)]
  · rw [if_pos h3, nc_li_v, nI_1, if_neg (fun q => h3 q.1)]
theorem mb_91 {f C N h : Nat} (hs : shp (w.1 874 0) f C N h) (hc : c < 8) (hi : i < 10) (x a b : Int32) :
  nc_Run m_X12_milkBy 91 [some (.inr (.inr (12, 0))), some (.inl (nI c)), some (.inl heard), some (.inl stale), some (.inl x), some (.inl (nI i)), some (.inl (w.1 874 0 (37 + i))), none] [.inl a, .inl b] w
  = nc_Run m_X12_milkBy 116 [some (.inr (.inr (12, 0))), some (.inl (nI c)), some (.inl heard), some (.inl stale), some (.inl x), some (.inl (nI i)), some (.inl (w.1 874 0 (37 + i))), some (.inl (if w.1 874 0 (37 + i) = 1 ∧ hos (w.1 874 0) C c i ≠ 0 then (b + a) * 2 else b + a))] [] w := by
  rw [qr_X12_milkBy_91, nc_li_v]
  by_cases h1 : w.1 874 0 (37 + i) = 1
  · rw [if_neg (fun q => q h1), sm_hasOther w hs hc hi, nc_bI_v]
    by_cases h2 : hos (w.1 874 0) C c i = 0
    · rw [if_pos h2, if_neg (fun q => q.2 h2)]
    · rw [if_neg h2, nc_li_v, if_pos (And.intro h1 h2)]
  · rw [if_pos h1, if_neg (fun q => h1 q.1)]
theorem mb_116 (hc : c < 8) (hi : i < 10) (x v : Int32) :
  nc_Run m_X12_milkBy 116 [some (.inr (.inr (12, 0))), some (.inl (nI c)), some (.inl heard), some (.inl stale), some (.inl x), some (.inl (nI i)), some (.inl (w.1 874 0 (37 + i))), some (.inl v)] [] w
  = nc_Run m_X12_milkBy 14 [some (.inr (.inr (12, 0))), some (.inl (nI c)), some (.inl heard), some (.inl stale), some (.inl (mwe (w.1 874 0) c i (if bq stale (nI i) then x + v / 2 else x + v))), some (.inl (nI (i + 1))), none, none] [] w := by
  rw [qr_X12_milkBy_116, sm_bitOf, nc_bI_v]
  by_cases hb : bq stale (nI i)
  · rw [if_neg (tI_ne.mpr hb), nc_li_v, if_pos hb]
    exact mb_tail _ hc hi
  · rw [if_pos (tI_eq0.mpr hb), nc_li_v, if_neg hb]
    exact mb_tail _ hc hi
theorem mb_step {f C N h : Nat} (hs : shp (w.1 874 0) f C N h) (hc : c < 8) (hi : i < N) (x : Int32) :
  nc_Run m_X12_milkBy 14 [some (.inr (.inr (12, 0))), some (.inl (nI c)), some (.inl heard), some (.inl stale), some (.inl x), some (.inl (nI i)), none, none] [] w
  = nc_Run m_X12_milkBy 14 [some (.inr (.inr (12, 0))), some (.inl (nI c)), some (.inl heard), some (.inl stale), some (.inl (mst (w.1 874 0) C c heard stale i x)), some (.inl (nI (i + 1))), none, none] [] w := by
  have h2 : w.1 874 0 2 = nI N := hs.2.2.1
  have hN : N ≤ 10 := hs.2.2.2.2.2.2.1
  rw [qr_X12_milkBy_14, h2, if_neg (by rw [nI_leI (by omega) (by omega)]; omega), pl_bd 37 i (by omega), nc_li_v, sm_bitOf, nc_bI_v]
  unfold mst
  by_cases hb : bq heard (nI i)
  · rw [if_neg (tI_ne.mpr hb)]
    by_cases hk : (2 : Int32) ≤ w.1 874 0 (37 + i)
    · rw [if_pos hk, if_neg (fun q : bq heard (nI i) ∧ ¬ (2 : Int32) ≤ w.1 874 0 (37 + i) => q.2 hk)]
      exact mb_tail _ hc (by omega)
    · rw [if_neg hk, pl_bd 47 i (by omega), sm_isLie, nc_bI_v, if_pos (And.intro hb hk)]
      have fin : ∀ a : Int32, (a = if bq (w.1 874 0 57) (nI i) ∧ ¬ bq (w.1 874 0 78) (nI i) then 5 else 0) → nc_Run m_X12_milkBy 91 [some (.inr (.inr (12, 0))), some (.inl (nI c)), some (.inl heard), some (.inl stale), some (.inl x), some (.inl (nI i)), some (.inl (w.1 874 0 (37 + i))), none] [.inl a, .inl (w.1 874 0 (47 + i))] w = nc_Run m_X12_milkBy 14 [some (.inr (.inr (12, 0))), some (.inl (nI c)), some (.inl heard), some (.inl stale), some (.inl (mwe (w.1 874 0) c i (if bq stale (nI i) then x + mv (w.1 874 0) C c i / 2 else x + mv (w.1 874 0) C c i))), some (.inl (nI (i + 1))), none, none] [] w := by
        intro a ha
        rw [mb_91 hs hc (by omega), mb_116 hc (by omega), ha]
        rfl
      by_cases hl : bq (w.1 874 0 57) (nI i)
      · rw [if_neg (tI_ne.mpr hl), sm_bitOf, nc_bI_v]
        by_cases hf : bq (w.1 874 0 78) (nI i)
        · rw [if_pos (tI_ne.mpr hf), qr_X12_milkBy_90]
          exact fin 0 (by rw [if_neg (fun q => q.2 hf)])
        · rw [if_neg (fun q => q (tI_eq0.mpr hf))]
          exact fin 5 (by rw [if_pos (And.intro hl hf)])
      · rw [if_pos (tI_eq0.mpr hl), qr_X12_milkBy_90]
        exact fin 0 (by rw [if_neg (fun q => hl q.1)])
  · rw [if_pos (tI_eq0.mpr hb), if_neg (fun q : bq heard (nI i) ∧ ¬ (2 : Int32) ≤ w.1 874 0 (37 + i) => hb q.1)]
    exact mb_tail _ hc (by omega)
end MB
theorem sm_milkBy {c f C N h : Nat} (w : nc_H) (hs : shp (w.1 874 0) f C N h) (hc : c < 8) (heard stale : Int32) : nc_Call m_X12_milkBy [mO, .inl (nI c), .inl heard, .inl stale] w = some (some (.inl (mby (w.1 874 0) C N c heard stale)), w) := by
  have h2 : w.1 874 0 2 = nI N := hs.2.2.1
  have hN : N ≤ 10 := hs.2.2.2.2.2.2.1
  rw [qc_X12_milkBy, pl_bd 13 c (by omega), nc_li_v]
  have key := it_loop (R := fun i (x : Int32) => nc_Run m_X12_milkBy 14 [some (.inr (.inr (12, 0))), some (.inl (nI c)), some (.inl heard), some (.inl stale), some (.inl x), some (.inl (nI i)), none, none] [] w) (st := mst (w.1 874 0) C c heard stale) (I := fun _ _ => True) (n := N) (out := fun x => some (some (.inl (mx 0 x)), w)) (fun i x hi _ => ⟨mb_step hs hc hi x, trivial⟩) ?_ N 0 (w.1 874 0 (13 + c)) (by omega) trivial
  · exact key
  · intro x _
    show nc_Run m_X12_milkBy 14 _ _ w = _
    rw [qr_X12_milkBy_14, h2, if_pos (by rw [nI_leI (by omega) (by omega)]; omega), sm_greater, nc_bI_v]
/-- more holds a war -/
abbrev war (S : Nat → Int32) (N : Nat) (more : Int32) : Prop := ∃ n, n < N ∧ (bq more (nI n) ∧ S (37 + n) = 2)
/-- what cow c gives with more told -/
def mwi (S : Nat → Int32) (C N c : Nat) (more : Int32) : Int32 := if bq (S 77) (nI c) ∨ cu S c ∨ war S N more then 0 else mby S C N c (S (100 + c) ||| more) (S (108 + c) ||| (more &&& kns S N c))
theorem sm_milkWith {c f C N h : Nat} (w : nc_H) (hs : shp (w.1 874 0) f C N h) (hc : c < 8) (more : Int32) : nc_Call m_X12_milkWith [mO, .inl (nI c), .inl more] w = some (some (.inl (mwi (w.1 874 0) C N c more)), w) := by
  have h2 : w.1 874 0 2 = nI N := hs.2.2.1
  have hN : N ≤ 10 := hs.2.2.2.2.2.2.1
  rw [qc_X12_milkWith, sm_isDry, nc_bI_v]
  unfold mwi
  by_cases hd : bq (w.1 874 0 77) (nI c)
  · rw [if_pos (tI_ne.mpr hd), if_pos (Or.inl hd)]
  · rw [if_neg (fun q => q (tI_eq0.mpr hd)), sm_isCurdled w hc, nc_bI_v]
    by_cases hu : cu (w.1 874 0) c
    · rw [if_neg (tI_ne.mpr hu), if_pos (Or.inr (Or.inl hu))]
    · rw [if_pos (tI_eq0.mpr hu)]
      have key : ∀ k i, i + k = N → (∀ n, n < i → ¬ (bq more (nI n) ∧ w.1 874 0 (37 + n) = 2)) → nc_Run m_X12_milkWith 20 [some mO, some (.inl (nI c)), some (.inl more), some (.inl (nI i))] [] w = some (some (.inl (if bq (w.1 874 0 77) (nI c) ∨ cu (w.1 874 0) c ∨ war (w.1 874 0) N more then 0 else mby (w.1 874 0) C N c (w.1 874 0 (100 + c) ||| more) (w.1 874 0 (108 + c) ||| (more &&& kns (w.1 874 0) N c)))), w) := by
        intro k
        induction k with
        | zero =>
          intro i hi hno
          have e : i = N := by omega
          subst e
          have hw : ¬ (bq (w.1 874 0 77) (nI c) ∨ cu (w.1 874 0) c ∨ war (w.1 874 0) i more) := by
            intro q
            rcases q with q | q | ⟨n, q1, q2⟩
            · exact hd q
            · exact hu q
            · exact hno n q1 q2
          rw [qr_X12_milkWith_20, h2, if_pos (by rw [nI_leI (by omega) (by omega)]; omega), pl_bd 100 c (by omega), pl_bd 108 c (by omega), sm_known w hs hc, nc_bI_v, sm_milkBy w hs hc, nc_bI_v, if_neg hw]
        | succ k ih =>
          intro i hi hno
          rw [qr_X12_milkWith_20, h2, if_neg (by rw [nI_leI (by omega) (by omega)]; omega), sm_bitOf, nc_bI_v]
          by_cases hb : bq more (nI i)
          · rw [if_neg (tI_ne.mpr hb), pl_bd 37 i (by omega)]
            by_cases hk : w.1 874 0 (37 + i) = 2
            · rw [if_neg (fun q => q hk), if_pos (Or.inr (Or.inr ⟨i, by omega, hb, hk⟩))]
            · rw [if_pos hk, nc_li_v, nI_1]
              refine ih (i + 1) (by omega) (fun n hn q => ?_)
              rcases Nat.lt_or_ge n i with hlt | hge
              · exact hno n hlt q
              · have e : n = i := by omega
                subst e
                exact hk q.2
          · rw [if_pos (tI_eq0.mpr hb), nc_li_v, nI_1]
            refine ih (i + 1) (by omega) (fun n hn q => ?_)
            rcases Nat.lt_or_ge n i with hlt | hge
            · exact hno n hlt q
            · have e : n = i := by omega
              subst e
              exact hb q.1
      exact key N 0 (by omega) (fun n hn => absurd hn (Nat.not_lt_zero n))
theorem sm_milk {c f C N h : Nat} (w : nc_H) (hs : shp (w.1 874 0) f C N h) (hc : c < 8) : nc_Call m_X12_milk [mO, .inl (nI c)] w = some (some (.inl (mwi (w.1 874 0) C N c 0)), w) := by
  rw [qc_X12_milk, sm_milkWith w hs hc, nc_bI_v]
/-- what farm g gives -/
def mof (S : Nat → Int32) (C N : Nat) (g : Int32) : Int32 := it (fun i (x : Int32) => x + (if S (5 + i) = g then mwi S C N i 0 else 0)) 0 C 0
theorem sm_milkOf {f C N h : Nat} (w : nc_H) (hs : shp (w.1 874 0) f C N h) (g : Int32) : nc_Call m_X12_milkOf [mO, .inl g] w = some (some (.inl (mof (w.1 874 0) C N g)), w) := by
  have h1 : w.1 874 0 1 = nI C := hs.2.1
  have hC : C ≤ 8 := hs.2.2.2.2.2.1
  rw [qc_X12_milkOf]
  have key := it_loop (R := fun i (x : Int32) => nc_Run m_X12_milkOf 4 [some mO, some (.inl g), some (.inl x), some (.inl (nI i))] [] w) (st := fun i (x : Int32) => x + (if w.1 874 0 (5 + i) = g then mwi (w.1 874 0) C N i 0 else 0)) (I := fun _ _ => True) (n := C) (out := fun x => some (some (.inl x), w)) ?_ ?_ C 0 0 (by omega) trivial
  · exact key
  · intro i x hi _
    refine ⟨?_, trivial⟩
    show nc_Run m_X12_milkOf 4 _ _ w = nc_Run m_X12_milkOf 4 _ _ w
    rw [qr_X12_milkOf_4, h1, if_neg (by rw [nI_leI (by omega) (by omega)]; omega), pl_bd 5 i (by omega)]
    by_cases hk : w.1 874 0 (5 + i) = g
    · rw [if_neg (fun q => q hk), sm_milk w hs (by omega), nc_bI_v, nc_li_v, nc_li_v, nI_1, if_pos hk]
    · rw [if_pos hk, nc_li_v, nc_li_v, nI_1, if_neg hk]
  · intro x _
    show nc_Run m_X12_milkOf 4 _ _ w = _
    rw [qr_X12_milkOf_4, h1, if_pos (by rw [nI_leI (by omega) (by omega)]; omega)]
