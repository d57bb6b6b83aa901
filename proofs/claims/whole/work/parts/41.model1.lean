/-! THE MODEL'S READS. S is the model's array s: w.1 874 0. -/
abbrev mO : nc_V := .inr (.inr (12, 0))
theorem sm_isIn (v lo hi : Int32) (w : nc_H) : nc_Call m_X12_isIn [.inl v, .inl lo, .inl hi] w = some (some (.inl (tI (lo ≤ v ∧ v ≤ hi))), w) := by
  rw [qc_X12_isIn]
  by_cases h1 : v < lo
  · rw [if_pos h1, tI_f (fun q => absurd h1 (Int32.not_lt.mpr q.1))]
  · rw [if_neg h1]
    by_cases h2 : hi < v
    · rw [if_pos h2, tI_f (fun q => absurd h2 (Int32.not_lt.mpr q.2))]
    · rw [if_neg h2, tI_t ⟨Int32.not_lt.mp h1, Int32.not_lt.mp h2⟩]
theorem sm_bitOf (x n : Int32) (w : nc_H) : nc_Call m_X12_bitOf [.inl x, .inl n] w = some (some (.inl (tI (bq x n))), w) := by
  rw [qc_X12_bitOf]
  by_cases h : bq x n
  · rw [if_neg (fun q => q h), tI_t h]
  · rw [if_pos h, tI_f h]
def mx (a b : Int32) : Int32 := if a ≤ b then b else a
theorem sm_greater (a b : Int32) (w : nc_H) : nc_Call m_X12_greater [.inl a, .inl b] w = some (some (.inl (mx a b)), w) := by
  rw [qc_X12_greater]
  unfold mx
  by_cases h : a ≤ b
  · rw [if_pos h, if_pos h]
  · rw [if_neg h, if_neg h]
theorem sm_isFarm (f : Int32) (w : nc_H) : nc_Call m_X12_isFarm [mO, .inl f] w = some (some (.inl (tI (0 ≤ f ∧ f ≤ w.1 874 0 0 - 1))), w) := by
  rw [qc_X12_isFarm, sm_isIn, nc_bI_v, nc_z_tI]
theorem sm_isCow (c : Int32) (w : nc_H) : nc_Call m_X12_isCow [mO, .inl c] w = some (some (.inl (tI (0 ≤ c ∧ c ≤ w.1 874 0 1 - 1))), w) := by
  rw [qc_X12_isCow, sm_isIn, nc_bI_v, nc_z_tI]
theorem sm_isNews (n : Int32) (w : nc_H) : nc_Call m_X12_isNews [mO, .inl n] w = some (some (.inl (tI (0 ≤ n ∧ n ≤ w.1 874 0 2 - 1))), w) := by
  rw [qc_X12_isNews, sm_isIn, nc_bI_v, nc_z_tI]
theorem sm_isDry (c : Int32) (w : nc_H) : nc_Call m_X12_isDry [mO, .inl c] w = some (some (.inl (tI (bq (w.1 874 0 77) c))), w) := by
  rw [qc_X12_isDry, sm_bitOf, nc_bI_v, nc_z_tI]
theorem sm_isLie (n : Int32) (w : nc_H) : nc_Call m_X12_isLie [mO, .inl n] w = some (some (.inl (tI (bq (w.1 874 0 57) n))), w) := by
  rw [qc_X12_isLie, sm_bitOf, nc_bI_v, nc_z_tI]
/-! places in s -/
theorem pl_1 (o i : Nat) : (OfNat.ofNat o : Int32) + nI i = nI (o + i) := by rw [show (OfNat.ofNat o : Int32) = nI o from rfl, nI_add]
theorem pl_bd (o i : Nat) {k : Nat → Option nc_R} (h : o + i < 513) : nc_bd ((OfNat.ofNat o : Int32) + nI i) 513 k = k (o + i) := nc_bd_of (o + i) (pl_1 o i) h (by decide)
theorem pl_bd2 {c n : Nat} {k : Nat → Option nc_R} (hc : c < 8) (hn : n < 10) : nc_bd ((132 + (10 * nI c)) + nI n) 513 k = k (132 + 10 * c + n) := by
  refine nc_bd_of (132 + 10 * c + n) ?_ (by omega) (by decide)
  rw [show (132 : Int32) = nI 132 from rfl, show (10 : Int32) = nI 10 from rfl, pk_mul, nI_add, nI_add]
/-- cow c knows news n -/
abbrev kn (S : Nat → Int32) (c n : Nat) : Prop := ¬ S (132 + 10 * c + n) ≤ 0 ∧ ¬ S (29 + c) < S 76 - (S (132 + 10 * c + n) - 1)
/-- cow c is curdled -/
abbrev cu (S : Nat → Int32) (c : Nat) : Prop := ¬ S (124 + c) ≤ 0 ∧ ¬ (6 : Int32) < S 76 - (S (124 + c) - 1)
theorem sm_knows {c n : Nat} (w : nc_H) (hc : c < 8) (hn : n < 10) : nc_Call m_X12_knows [mO, .inl (nI c), .inl (nI n)] w = some (some (.inl (tI (kn (w.1 874 0) c n))), w) := by
  rw [qc_X12_knows, pl_bd2 hc hn, nc_li_v]
  by_cases h1 : w.1 874 0 (132 + 10 * c + n) ≤ 0
  · rw [if_pos h1, tI_f (fun q => q.1 h1)]
  · rw [if_neg h1, pl_bd 29 c (by omega)]
    by_cases h2 : w.1 874 0 (29 + c) < w.1 874 0 76 - (w.1 874 0 (132 + 10 * c + n) - 1)
    · rw [if_pos h2, tI_f (fun q => q.2 h2)]
    · rw [if_neg h2, tI_t ⟨h1, h2⟩]
theorem sm_isCurdled {c : Nat} (w : nc_H) (hc : c < 8) : nc_Call m_X12_isCurdled [mO, .inl (nI c)] w = some (some (.inl (tI (cu (w.1 874 0) c))), w) := by
  rw [qc_X12_isCurdled, pl_bd 124 c (by omega)]
  by_cases h1 : w.1 874 0 (124 + c) ≤ 0
  · rw [if_pos h1, tI_f (fun q => q.1 h1)]
  · rw [if_neg h1, pl_bd 124 c (by omega)]
    by_cases h2 : (6 : Int32) < w.1 874 0 76 - (w.1 874 0 (124 + c) - 1)
    · rw [if_pos h2, tI_f (fun q => q.2 h2)]
    · rw [if_neg h2, tI_t ⟨h1, h2⟩]
/-- how many farms, cows, news, hedges -/
def shp (S : Nat → Int32) (f c n h : Nat) : Prop := S 0 = nI f ∧ S 1 = nI c ∧ S 2 = nI n ∧ S 3 = nI h ∧ f ≤ 4 ∧ c ≤ 8 ∧ n ≤ 10 ∧ h ≤ 6
def bs (n : Nat) : Int32 := 1 <<< (nI n &&& 31)
/-- what cow c knows, as bits -/
def kns (S : Nat → Int32) (N c : Nat) : Int32 := it (fun i (x : Int32) => x ||| (if kn S c i then bs i else 0)) 0 N 0
theorem nI_le_iff {a b : Nat} (ha : a < 2 ^ 31) (hb : b < 2 ^ 31) : nI a ≤ nI b ↔ a ≤ b := nI_leI ha hb
theorem sm_known {c f C N h : Nat} (w : nc_H) (hs : shp (w.1 874 0) f C N h) (hc : c < 8) : nc_Call m_X12_known [mO, .inl (nI c)] w = some (some (.inl (kns (w.1 874 0) N c)), w) := by
  obtain ⟨-, -, h2, -, -, -, hN, -⟩ := hs
  rw [qc_X12_known]
  have key := it_loop (R := fun i (x : Int32) => nc_Run m_X12_known 4 [some mO, some (.inl (nI c)), some (.inl x), some (.inl (nI i))] [] w) (st := fun i (x : Int32) => x ||| (if kn (w.1 874 0) c i then bs i else 0)) (I := fun _ _ => True) (n := N) (out := fun x => some (some (.inl x), w)) ?_ ?_ N 0 0 (by omega) trivial
  · exact key
  · intro i x hi _
    refine ⟨?_, trivial⟩
    show nc_Run m_X12_known 4 _ _ w = nc_Run m_X12_known 4 _ _ w
    rw [qr_X12_known_4, h2, if_neg (by rw [nI_leI (by omega) (by omega)]; omega), sm_knows w hc (by omega), nc_bI_v]
    by_cases hk : kn (w.1 874 0) c i
    · rw [if_neg (tI_ne.mpr hk), nc_li_v, nc_li_v, nI_1, if_pos hk]
      rfl
    · rw [if_pos (tI_eq0.mpr hk), nc_li_v, nc_li_v, nI_1, if_neg hk]
  · intro x _
    show nc_Run m_X12_known 4 _ _ w = _
    rw [qr_X12_known_4, h2, if_pos (by rw [nI_leI (by omega) (by omega)]; omega)]
/-- another cow of her farm heard news n today -/
abbrev ho (S : Nat → Int32) (c n o : Nat) : Prop := o ≠ c ∧ S (5 + o) = S (5 + c) ∧ bq (S (100 + o)) (nI n)
def hos (S : Nat → Int32) (C c n : Nat) : Int32 := it (fun o (x : Int32) => if x ≠ 0 then 1 else tI (ho S c n o)) 0 C 0
theorem sm_hasOther {c n f C N h : Nat} (w : nc_H) (hs : shp (w.1 874 0) f C N h) (hc : c < 8) (hn : n < 10) : nc_Call m_X12_hasOther [mO, .inl (nI c), .inl (nI n)] w = some (some (.inl (hos (w.1 874 0) C c n)), w) := by
  obtain ⟨-, h1, -, -, -, hC, -, -⟩ := hs
  rw [qc_X12_hasOther]
  have key := it_loop (R := fun i (x : Int32) => nc_Run m_X12_hasOther 5 [some mO, some (.inl (nI c)), some (.inl (nI n)), some (.inl x), some (.inl (nI i))] [] w) (st := fun o (x : Int32) => if x ≠ 0 then 1 else tI (ho (w.1 874 0) c n o)) (I := fun _ x => x = 0 ∨ x = 1) (n := C) (out := fun x => some (some (.inl x), w)) ?_ ?_ C 0 0 (by omega) (Or.inl rfl)
  · exact key
  · intro i x hi hx
    have hlt : ¬ nI C ≤ nI i := by rw [nI_leI (by omega) (by omega)]; omega
    by_cases hx0 : x ≠ 0
    · refine ⟨?_, Or.inr (if_pos hx0)⟩
      show nc_Run m_X12_hasOther 5 _ _ w = nc_Run m_X12_hasOther 5 _ _ w
      rw [qr_X12_hasOther_5, h1, if_neg hlt, if_pos hx0, if_pos hx0, nc_li_v, nI_1]
    · refine ⟨?_, by rw [if_neg hx0]; exact tI_01⟩
      show nc_Run m_X12_hasOther 5 _ _ w = nc_Run m_X12_hasOther 5 _ _ w
      rw [qr_X12_hasOther_5, h1, if_neg hlt, if_neg hx0, if_neg hx0]
      by_cases e1 : i = c
      · rw [if_pos (by rw [e1]), nc_li_v, nI_1, tI_f (fun q => q.1 e1)]
      · rw [if_neg (fun q => e1 ((nI_eq (by omega) (by omega)).mp q)), pl_bd 5 i (by omega), pl_bd 5 c (by omega)]
        by_cases e2 : w.1 874 0 (5 + i) = w.1 874 0 (5 + c)
        · rw [if_neg (fun q => q e2), pl_bd 100 i (by omega), sm_bitOf, nc_bI_v]
          by_cases e3 : bq (w.1 874 0 (100 + i)) (nI n)
          · rw [if_neg (tI_ne.mpr e3), nc_li_v, nI_1, tI_t ⟨e1, e2, e3⟩]
          · rw [if_pos (tI_eq0.mpr e3), nc_li_v, nI_1, tI_f (fun q => e3 q.2.2)]
        · rw [if_pos e2, nc_li_v, nI_1, tI_f (fun q => e2 q.2.1)]
  · intro x hx
    show nc_Run m_X12_hasOther 5 _ _ w = _
    rw [qr_X12_hasOther_5, h1, if_pos (by rw [nI_leI (by omega) (by omega)]; omega), nc_z_of hx]
theorem sm_allPails (w : nc_H) : nc_Call m_X12_allPails [mO] w = some (some (.inl (w.1 874 0 95 + w.1 874 0 96 + w.1 874 0 97 + w.1 874 0 98)), w) := qc_X12_allPails 0 w
/-- hedge k talks today -/
abbrev tk (S : Nat → Int32) (k : Nat) : Prop := S 76 + 1 - (S 76 + 1) / S (70 + k) * S (70 + k) = 0
theorem sm_talks {k : Nat} (w : nc_H) (hk : k < 6) (h0 : w.1 874 0 (70 + k) ≠ 0) : nc_Call m_X12_talks [mO, .inl (nI k)] w = some (some (.inl (tI (tk (w.1 874 0) k))), w) := by
  rw [qc_X12_talks, pl_bd 70 k (by omega), if_neg h0]
  by_cases h : tk (w.1 874 0) k
  · rw [if_neg (fun q => q h), tI_t h]
  · rw [if_pos h, tI_f h]
/-- the cows of a farm, as bits -/
def cof (S : Nat → Int32) (C : Nat) (f : Int32) : Int32 := it (fun i (x : Int32) => x ||| (if S (5 + i) = f then bs i else 0)) 0 C 0
theorem sm_cowsOf {f C N h : Nat} (w : nc_H) (hs : shp (w.1 874 0) f C N h) (g : Int32) : nc_Call m_X12_cowsOf [mO, .inl g] w = some (some (.inl (cof (w.1 874 0) C g)), w) := by
  obtain ⟨-, h1, -, -, -, hC, -, -⟩ := hs
  rw [qc_X12_cowsOf]
  have key := it_loop (R := fun i (x : Int32) => nc_Run m_X12_cowsOf 4 [some mO, some (.inl g), some (.inl x), some (.inl (nI i))] [] w) (st := fun i (x : Int32) => x ||| (if w.1 874 0 (5 + i) = g then bs i else 0)) (I := fun _ _ => True) (n := C) (out := fun x => some (some (.inl x), w)) ?_ ?_ C 0 0 (by omega) trivial
  · exact key
  · intro i x hi _
    refine ⟨?_, trivial⟩
    show nc_Run m_X12_cowsOf 4 _ _ w = nc_Run m_X12_cowsOf 4 _ _ w
    rw [qr_X12_cowsOf_4, h1, if_neg (by rw [nI_leI (by omega) (by omega)]; omega), pl_bd 5 i (by omega)]
    by_cases hk : w.1 874 0 (5 + i) = g
    · rw [if_neg (fun q => q hk), nc_li_v, nc_li_v, nI_1, if_pos hk]
      rfl
    · rw [if_pos hk, nc_li_v, nc_li_v, nI_1, if_neg hk]
  · intro x _
    show nc_Run m_X12_cowsOf 4 _ _ w = _
    rw [qr_X12_cowsOf_4, h1, if_pos (by rw [nI_leI (by omega) (by omega)]; omega)]
