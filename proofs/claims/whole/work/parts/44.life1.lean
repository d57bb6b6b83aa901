/-! THE CLASS'S LIFE AND DAIRY, as they stand for the model's s. -/
abbrev lO (a : Nat) : nc_V := .inr (.inr (7, a))
/-- the day of war in a Life, by the model's WARS -/
def wd (x : Int32) : Int32 := if x ≤ 0 then -100 else x - 1
/-- a Dairy d holds what S says -/
def DR (w : nc_H) (d : Nat) (S : Nat → Int32) (f C N h : Nat) : Prop := shp S f C N h ∧
  (w.1 2 d 1 = nI f ∧ w.1 2 d 2 = nI C ∧ w.1 2 d 3 = nI N ∧ w.1 2 d 4 = nI h ∧ w.1 2 d 5 = S 4 ∧ w.1 2 d 6 = S 57) ∧
  (∀ c, c < C → w.1 238 d c = S (5 + c) ∧ w.1 239 d c = S (13 + c) ∧ w.1 240 d c = S (21 + c) ∧ w.1 241 d c = S (29 + c)) ∧
  (∀ n, n < N → w.1 242 d n = S (37 + n) ∧ w.1 243 d n = S (47 + n)) ∧
  (∀ k, k < h → w.1 244 d k = S (58 + k) ∧ w.1 245 d k = S (64 + k) ∧ w.1 246 d k = S (70 + k))
/-- the kinds of news -/
def kOK (S : Nat → Int32) (N : Nat) : Prop := ∀ n, n < N → S (37 + n) = 0 ∨ S (37 + n) = 1 ∨ S (37 + n) = 2 ∨ S (37 + n) = 3
/-- the day -/
def dOK (S : Nat → Int32) : Prop := ∃ d : Nat, d ≤ 400 ∧ S 76 = nI d
/-- a Life a holds what S says of today (what its milk needs) -/
def LT (w : nc_H) (a : Nat) (S : Nat → Int32) : Prop := (w.1 7 a 1 = S 76 ∧ w.1 7 a 3 = S 77 ∧ w.1 7 a 4 = S 78) ∧ ∀ c, c < 8 → w.1 555 a c = S (100 + c) ∧ w.1 556 a c = S (108 + c) ∧ w.1 557 a c = S (116 + c) ∧ w.1 558 a c = wd (S (124 + c))
theorem sl_isDry (a : Nat) (c : Int32) (w : nc_H) : nc_Call m_X7_isDry [lO a, .inl c] w = some (some (.inl (tI (bq (w.1 7 a 3) c))), w) := by
  rw [qc_X7_isDry]
  by_cases h : bq (w.1 7 a 3) c
  · rw [if_neg (fun q => q h), tI_t h]
  · rw [if_pos h, tI_f h]
theorem bd8 (c n : Nat) {k : Nat → Option nc_R} (h : c < n) (hn : n < 2 ^ 31) : nc_bd (nI c) n k = k c := nc_bd_of c rfl h hn
theorem wd_cu {S : Nat → Int32} {c : Nat} (hd : dOK S) : ¬ (6 : Int32) < S 76 - wd (S (124 + c)) ↔ cu S c := by
  obtain ⟨d, hd, e⟩ := hd
  unfold wd
  by_cases h : S (124 + c) ≤ 0
  · rw [if_pos h]
    constructor
    · intro q
      exfalso
      apply q
      rw [e, Int32.sub_eq_add_neg, Int32.neg_neg, show (100 : Int32) = nI 100 from rfl, nI_add, show (6 : Int32) = nI 6 from rfl, nI_ltI (by omega) (by omega)]
      omega
    · intro q
      exact absurd h q.1
  · rw [if_neg h]
    exact ⟨fun q => ⟨h, q⟩, fun q => q.2⟩
theorem sl_isCurdled {a c : Nat} {S : Nat → Int32} (w : nc_H) (hL : LT w a S) (hd : dOK S) (hc : c < 8) : nc_Call m_X7_isCurdled [lO a, .inl (nI c)] w = some (some (.inl (tI (cu S c))), w) := by
  rw [qc_X7_isCurdled, bd8 c 8 hc (by decide), hL.1.1, (hL.2 c hc).2.2.2]
  by_cases h : (6 : Int32) < S 76 - wd (S (124 + c))
  · rw [if_pos h, tI_f (fun q => (wd_cu hd).mpr q h)]
  · rw [if_neg h, tI_t ((wd_cu hd).mp h)]
/-- what the others of her farm heard -/
def hbo (S : Nat → Int32) (C c : Nat) : Int32 := it (fun o (x : Int32) => if o = c then x else if S (5 + o) = S (5 + c) then x ||| S (100 + o) else x) 0 C 0
theorem sl_heardByOthers {a c f C N h : Nat} {S : Nat → Int32} (w : nc_H) (hD : DR w (nc_ld a) S f C N h) (hL : LT w a S) (hc : c < C) : nc_Call m_X7_heardByOthers [lO a, .inl (nI c)] w = some (some (.inl (hbo S C c)), w) := by
  have hC : C ≤ 8 := hD.1.2.2.2.2.2.1
  have h2 : w.1 2 (nc_ld a) 2 = nI C := hD.2.1.2.1
  rw [qc_X7_heardByOthers]
  have key := it_loop (R := fun i (x : Int32) => nc_Run m_X7_heardByOthers 4 [some (lO a), some (.inl (nI c)), some (.inl x), some (.inl (nI i))] [] w) (st := fun o (x : Int32) => if o = c then x else if S (5 + o) = S (5 + c) then x ||| S (100 + o) else x) (I := fun _ _ => True) (n := C) (out := fun x => some (some (.inl x), w)) ?_ ?_ C 0 0 (by omega) trivial
  · exact key
  · intro i x hi _
    refine ⟨?_, trivial⟩
    show nc_Run m_X7_heardByOthers 4 _ _ w = nc_Run m_X7_heardByOthers 4 _ _ w
    rw [qr_X7_heardByOthers_4, h2, if_neg (by rw [nI_leI (by omega) (by omega)]; omega)]
    by_cases e : i = c
    · rw [if_pos (by rw [e]), nc_li_v, nI_1, if_pos e]
    · rw [if_neg (fun q => e ((nI_eq (by omega) (by omega)).mp q)), bd8 i 8 (by omega) (by decide), bd8 c 8 (by omega) (by decide), (hD.2.2.1 i hi).1, (hD.2.2.1 c hc).1, if_neg e]
      by_cases e2 : S (5 + i) = S (5 + c)
      · rw [if_neg (fun q => q e2), bd8 i 8 (by omega) (by decide), nc_li_v, nc_li_v, nI_1, if_pos e2, (hL.2 i (by omega)).1]
      · rw [if_pos e2, nc_li_v, nI_1, if_neg e2]
  · intro x _
    show nc_Run m_X7_heardByOthers 4 _ _ w = _
    rw [qr_X7_heardByOthers_4, h2, if_pos (by rw [nI_leI (by omega) (by omega)]; omega)]
theorem hbo_eq {S : Nat → Int32} {C c n : Nat} (hn : n < 32) : ∀ (k i : Nat) (x : Int32), i + k = C → (bq (it (fun o (x : Int32) => if o = c then x else if S (5 + o) = S (5 + c) then x ||| S (100 + o) else x) i k x) (nI n) ↔ bq x (nI n) ∨ ∃ o, i ≤ o ∧ o < C ∧ ho S c n o)
  | 0, i, x, h => by
    show bq x (nI n) ↔ _
    exact ⟨Or.inl, fun q => q.elim id (fun ⟨o, q1, q2, _⟩ => absurd q1 (by omega))⟩
  | k + 1, i, x, h => by
    show bq (it (fun o (x : Int32) => if o = c then x else if S (5 + o) = S (5 + c) then x ||| S (100 + o) else x) (i + 1) k (if i = c then x else if S (5 + i) = S (5 + c) then x ||| S (100 + i) else x)) (nI n) ↔ _
    rw [hbo_eq (C := C) hn k (i + 1) _ (by omega)]
    by_cases e : i = c
    · rw [if_pos e]
      constructor
      · rintro (q | ⟨o, q1, q2, q3⟩)
        · exact Or.inl q
        · exact Or.inr ⟨o, by omega, q2, q3⟩
      · rintro (q | ⟨o, q1, q2, q3⟩)
        · exact Or.inl q
        · by_cases e2 : o = i
          · subst e2
            exact absurd e q3.1
          · exact Or.inr ⟨o, by omega, q2, q3⟩
    · rw [if_neg e]
      by_cases e2 : S (5 + i) = S (5 + c)
      · rw [if_pos e2, bq_or hn]
        constructor
        · rintro ((q | q) | ⟨o, q1, q2, q3⟩)
          · exact Or.inl q
          · exact Or.inr ⟨i, Nat.le_refl _, by omega, e, e2, q⟩
          · exact Or.inr ⟨o, by omega, q2, q3⟩
        · rintro (q | ⟨o, q1, q2, q3⟩)
          · exact Or.inl (Or.inl q)
          · by_cases e3 : o = i
            · subst e3
              exact Or.inl (Or.inr q3.2.2)
            · exact Or.inr ⟨o, by omega, q2, q3⟩
      · rw [if_neg e2]
        constructor
        · rintro (q | ⟨o, q1, q2, q3⟩)
          · exact Or.inl q
          · exact Or.inr ⟨o, by omega, q2, q3⟩
        · rintro (q | ⟨o, q1, q2, q3⟩)
          · exact Or.inl q
          · by_cases e3 : o = i
            · subst e3
              exact absurd q3.2.1 e2
            · exact Or.inr ⟨o, by omega, q2, q3⟩
theorem hbo_iff {S : Nat → Int32} {C c n : Nat} (hn : n < 32) : bq (hbo S C c) (nI n) ↔ hos S C c n ≠ 0 := by
  unfold hbo
  rw [hbo_eq (C := C) hn C 0 0 (by omega), hos_iff]
  exact ⟨fun q => q.elim (fun q => absurd q (bq_z hn)) (fun ⟨o, _, q⟩ => ⟨o, q⟩), fun ⟨o, q⟩ => Or.inr ⟨o, by omega, q⟩⟩
/-- what news n add, by what others heard and what is stale -/
def adv (S : Nat → Int32) (oth st : Int32) (n : Nat) : Int32 := if S (37 + n) = 0 ∨ S (37 + n) = 1 then (if bq st (nI n) then (if S (37 + n) = 1 ∧ bq oth (nI n) then mv0 S n * 2 else mv0 S n) / 2 else (if S (37 + n) = 1 ∧ bq oth (nI n) then mv0 S n * 2 else mv0 S n)) else 0
theorem sl_addedBy27 {a n f C N h : Nat} {S : Nat → Int32} (w : nc_H) (hD : DR w (nc_ld a) S f C N h) (hL : LT w a S) (hn : n < N) (oth st : Int32) : nc_Run m_X7_addedBy 27 [some (lO a), some (.inl (nI n)), some (.inl oth), some (.inl st), none] [] w = some (some (.inl (if bq st (nI n) then (if S (37 + n) = 1 ∧ bq oth (nI n) then mv0 S n * 2 else mv0 S n) / 2 else (if S (37 + n) = 1 ∧ bq oth (nI n) then mv0 S n * 2 else mv0 S n))), w) := by
  have hN : N ≤ 10 := hD.1.2.2.2.2.2.2.1
  have e6 : w.1 2 (nc_ld a) 6 = S 57 := hD.2.1.2.2.2.2.2
  have hk : w.1 242 (nc_ld a) n = S (37 + n) := (hD.2.2.2.1 n hn).1
  have hw : w.1 243 (nc_ld a) n = S (47 + n) := (hD.2.2.2.1 n hn).2
  have e4 : w.1 7 a 4 = S 78 := hL.1.2.2
  rw [qr_X7_addedBy_27, bd8 n 10 (by omega) (by decide), nc_li_v, hw, e6, e4]
  have fin : ∀ v : Int32, v = mv0 S n → (nc_bd (nI n) 10 fun j3 =>
    if (w.1 242 (nc_ld a) j3) ≠ 1 then
      if ((st >>> (nI n &&& 31)) &&& 1) ≠ 1 then
        some (some (.inl v), w)
      else
        some (some (.inl (v / 2)), w)
    else
      if ((oth >>> (nI n &&& 31)) &&& 1) ≠ 1 then
        if ((st >>> (nI n &&& 31)) &&& 1) ≠ 1 then
          some (some (.inl v), w)
        else
          some (some (.inl (v / 2)), w)
      else
        nc_li (v * 2) fun x4 =>
        if ((st >>> (nI n &&& 31)) &&& 1) ≠ 1 then
          some (some (.inl x4), w)
        else
          some (some (.inl (x4 / 2)), w)) = (some (some (.inl (if bq st (nI n) then (if S (37 + n) = 1 ∧ bq oth (nI n) then mv0 S n * 2 else mv0 S n) / 2 else (if S (37 + n) = 1 ∧ bq oth (nI n) then mv0 S n * 2 else mv0 S n))), w) : Option nc_R) := by
    intro v hv
    subst hv
    rw [bd8 n 10 (by omega) (by decide), hk]
    by_cases k1 : S (37 + n) = 1
    · rw [if_neg (fun q => q k1)]
      by_cases ko : bq oth (nI n)
      · rw [if_neg (fun q => q ko), nc_li_v, if_pos (And.intro k1 ko)]
        by_cases ks : bq st (nI n)
        · rw [if_neg (fun q => q ks), if_pos ks]
        · rw [if_pos ks, if_neg ks]
      · rw [if_pos ko, if_neg (show ¬ (S (37 + n) = 1 ∧ bq oth (nI n)) from fun q => ko q.2)]
        by_cases ks : bq st (nI n)
        · rw [if_neg (fun q => q ks), if_pos ks]
        · rw [if_pos ks, if_neg ks]
    · rw [if_pos k1, if_neg (show ¬ (S (37 + n) = 1 ∧ bq oth (nI n)) from fun q => k1 q.1)]
      by_cases ks : bq st (nI n)
      · rw [if_neg (fun q => q ks), if_pos ks]
      · rw [if_pos ks, if_neg ks]
  by_cases hl : bq (S 57 &&& (S 78 ^^^ (-1))) (nI n)
  · have hl2 := (bq_and (by omega)).mp hl
    rw [if_neg (fun q => q hl), nc_li_v]
    exact fin _ (by unfold mv0; rw [if_pos ⟨hl2.1, (bq_not (by omega)).mp hl2.2⟩])
  · rw [if_pos hl]
    refine fin _ ?_
    unfold mv0
    rw [if_neg (fun q => hl ((bq_and (by omega)).mpr ⟨q.1, (bq_not (by omega)).mpr q.2⟩)), Int32.add_zero]
theorem sl_addedBy {a n f C N h : Nat} {S : Nat → Int32} (w : nc_H) (hD : DR w (nc_ld a) S f C N h) (hL : LT w a S) (hn : n < N) (oth st : Int32) : nc_Call m_X7_addedBy [lO a, .inl (nI n), .inl oth, .inl st] w = some (some (.inl (adv S oth st n)), w) := by
  have hN : N ≤ 10 := hD.1.2.2.2.2.2.2.1
  have hk : w.1 242 (nc_ld a) n = S (37 + n) := (hD.2.2.2.1 n hn).1
  rw [qc_X7_addedBy, bd8 n 10 (by omega) (by decide), hk]
  unfold adv
  by_cases k0 : S (37 + n) = 0
  · rw [if_pos k0, sl_addedBy27 w hD hL hn, if_pos (Or.inl k0)]
  · rw [if_neg k0, bd8 n 10 (by omega) (by decide), hk]
    by_cases k1 : S (37 + n) = 1
    · rw [if_pos k1, sl_addedBy27 w hD hL hn, if_pos (Or.inr k1)]
    · rw [if_neg k1, if_neg (fun q => q.elim k0 k1)]
