/-! HOW MANY BITS; why not told, why not found. -/
def pc (k : Nat) : Nat := (k % 2) + (k / 2 % 2) + (k / 4 % 2) + (k / 8 % 2) + (k / 16 % 2) + (k / 32 % 2) + (k / 64 % 2) + (k / 128 % 2) + (k / 256 % 2) + (k / 512 % 2)
theorem pc_le (k : Nat) : pc k ≤ 10 := by unfold pc; omega
def bc (xa : Int32) : Int32 :=
  let x1 := xa - (((xa.toUInt32 >>> ((1 : Int32).toUInt32 &&& Int32.toUInt32 31)).toInt32) &&& 1431655765)
  let x2 := (x1 &&& 858993459) + (((x1.toUInt32 >>> ((2 : Int32).toUInt32 &&& Int32.toUInt32 31)).toInt32) &&& 858993459)
  let x3 := (x2 + ((x2.toUInt32 >>> ((4 : Int32).toUInt32 &&& Int32.toUInt32 31)).toInt32)) &&& 252645135
  let x4 := x3 + ((x3.toUInt32 >>> ((8 : Int32).toUInt32 &&& Int32.toUInt32 31)).toInt32)
  let x5 := x4 + ((x4.toUInt32 >>> ((16 : Int32).toUInt32 &&& Int32.toUInt32 31)).toInt32)
  x5 &&& 63
theorem bc_all : ∀ k, k < 1024 → bc (nI k) = nI (pc k) := by decide +kernel
theorem s_bitCount {k : Nat} (w : nc_H) (hk : k < 1024) : nc_Call m_J6_bitCount_0f7a4 [.inl (nI k)] w = some (some (.inl (nI (pc k))), w) := by
  rw [qc_J6_bitCount_0f7a4, ← bc_all k hk]
  rfl
theorem pc_step : ∀ k, k < 1024 → k ≠ 0 → nI k &&& (nI k - 1) = nI (k &&& (k - 1)) ∧ (k &&& (k - 1)) < k ∧ pc k = pc (k &&& (k - 1)) + 1 := by decide +kernel
theorem sm_bits {k : Nat} (w : nc_H) (hk : k < 1024) : nc_Call m_X12_bits [.inl (nI k)] w = some (some (.inl (nI (pc k))), w) := by
  rw [qc_X12_bits]
  have key : ∀ m k, k ≤ m → k < 1024 → ∀ j, nc_Run m_X12_bits 4 [none, some (.inl (nI j)), some (.inl (nI k))] [] w = some (some (.inl (nI (j + pc k))), w) := by
    intro m
    induction m with
    | zero =>
      intro k h1 h2 j
      have e : k = 0 := by omega
      subst e
      rw [qr_X12_bits_4, if_pos (show nI 0 = 0 from rfl)]
      rfl
    | succ m ih =>
      intro k h1 h2 j
      by_cases e : k = 0
      · subst e
        rw [qr_X12_bits_4, if_pos (show nI 0 = 0 from rfl)]
        rfl
      · obtain ⟨s1, s2, s3⟩ := pc_step k h2 e
        rw [qr_X12_bits_4, if_neg (show ¬ nI k = 0 from nI_ne0 (by omega) (by omega)), nc_li_v, nc_li_v, s1, nI_1, ih _ (by omega) (by omega) (j + 1), s3]
        congr 5
        omega
  have := key k k (Nat.le_refl _) hk 0
  rw [Nat.zero_add] at this
  exact this
/-- what a cow heard is a set of news -/
def hOK (S : Nat → Int32) : Prop := ∀ c, c < 8 → ∃ k, k < 1024 ∧ S (100 + c) = nI k
/-- why cow c can't be told news n -/
def wyT (S : Nat → Int32) (c n : Nat) (k : Nat) : Int32 := if bq (S 77) (nI c) then 1 else if bq (S (100 + c)) (nI n) then 2 else if nI (pc k) < S 4 then 0 else 3
theorem sm_whyTell {c n k : Nat} (w : nc_H) (hc : c < 8) (hk : k < 1024) (e : w.1 874 0 (100 + c) = nI k) : nc_Call m_X12_whyTell [mO, .inl (nI c), .inl (nI n)] w = some (some (.inl (wyT (w.1 874 0) c n k)), w) := by
  rw [qc_X12_whyTell, sm_isDry, nc_bI_v]
  unfold wyT
  by_cases h1 : bq (w.1 874 0 77) (nI c)
  · rw [if_neg (tI_ne.mpr h1), if_pos h1]
  · rw [if_pos (tI_eq0.mpr h1), pl_bd 100 c (by omega), sm_bitOf, nc_bI_v, if_neg h1]
    by_cases h2 : bq (w.1 874 0 (100 + c)) (nI n)
    · rw [if_neg (tI_ne.mpr h2), if_pos h2]
    · rw [if_pos (tI_eq0.mpr h2), pl_bd 100 c (by omega), e, sm_bits w hk, nc_bI_v, ← e, if_neg h2]
      by_cases h3 : nI (pc k) < w.1 874 0 4
      · rw [if_pos h3, if_pos h3]
      · rw [if_neg h3, if_neg h3]
theorem sl_whyNotTold {a c n k f C N h : Nat} {S : Nat → Int32} (w : nc_H) (hD : DR w (nc_ld a) S f C N h) (hL : LT w a S) (hc : c < 8) (hk : k < 1024) (e : S (100 + c) = nI k) : nc_Call m_X7_whyNotTold [lO a, .inl (nI c), .inl (nI n)] w = some (some (.inl (wyT S c n k)), w) := by
  have e5 : w.1 2 (nc_ld a) 5 = S 4 := hD.2.1.2.2.2.2.1
  have e55 : w.1 555 a c = S (100 + c) := (hL.2 c hc).1
  rw [qc_X7_whyNotTold, sl_isDry, nc_bI_v, hL.1.2.1]
  unfold wyT
  by_cases h1 : bq (S 77) (nI c)
  · rw [if_neg (tI_ne.mpr h1), if_pos h1]
  · rw [if_pos (tI_eq0.mpr h1), bd8 c 8 hc (by decide), e55, if_neg h1]
    by_cases h2 : bq (S (100 + c)) (nI n)
    · rw [if_neg (fun q => q h2), if_pos h2]
    · rw [if_pos h2, bd8 c 8 hc (by decide), e55, e, s_bitCount w hk, nc_bI_v, e5, ← e, if_neg h2]
      by_cases h3 : nI (pc k) < S 4
      · rw [if_pos h3, if_pos h3]
      · rw [if_neg h3, if_neg h3]
/-- why news n can't be found out -/
def wyF (S : Nat → Int32) (n : Int32) : Int32 := if bq (S 57) n then (if bq (S 78) n then 2 else 0) else 1
theorem sm_whyFind (n : Int32) (w : nc_H) : nc_Call m_X12_whyFind [mO, .inl n] w = some (some (.inl (wyF (w.1 874 0) n)), w) := by
  rw [qc_X12_whyFind, sm_isLie, nc_bI_v]
  unfold wyF
  by_cases h1 : bq (w.1 874 0 57) n
  · rw [if_pos (tI_ne.mpr h1), sm_bitOf, nc_bI_v, if_pos h1]
    by_cases h2 : bq (w.1 874 0 78) n
    · rw [if_neg (tI_ne.mpr h2), if_pos h2]
    · rw [if_pos (tI_eq0.mpr h2), if_neg h2]
  · rw [if_neg (fun q => q (tI_eq0.mpr h1)), if_neg h1]
theorem sd_isLie (d : Nat) (n : Int32) (w : nc_H) : nc_Call m_X2_isLie [.inr (.inr (2, d)), .inl n] w = some (some (.inl (tI (bq (w.1 2 d 6) n))), w) := by
  rw [qc_X2_isLie]
  by_cases h : bq (w.1 2 d 6) n
  · rw [if_neg (fun q => q h), tI_t h]
  · rw [if_pos h, tI_f h]
theorem sl_whyNotFound {a f C N h : Nat} {S : Nat → Int32} (n : Int32) (w : nc_H) (hD : DR w (nc_ld a) S f C N h) (hL : LT w a S) : nc_Call m_X7_whyNotFound [lO a, .inl n] w = some (some (.inl (wyF S n)), w) := by
  have e6 : w.1 2 (nc_ld a) 6 = S 57 := hD.2.1.2.2.2.2.2
  rw [qc_X7_whyNotFound, sd_isLie, nc_bI_v, e6, hL.1.2.2]
  unfold wyF
  by_cases h1 : bq (S 57) n
  · rw [if_pos (tI_ne.mpr h1), if_pos h1]
    by_cases h2 : bq (S 78) n
    · rw [if_neg (fun q => q h2), if_pos h2]
    · rw [if_pos h2, if_neg h2]
  · rw [if_neg (fun q => q (tI_eq0.mpr h1)), if_neg h1]
/-! who would dry -/
abbrev dby (S : Nat → Int32) (n c : Nat) : Prop := ¬ bq (S 77) (nI c) ∧ kn S c n ∧ ¬ S (79 + c) + 1 < S (21 + c)
def dbs (S : Nat → Int32) (C n : Nat) : Int32 := it (fun i (x : Int32) => x ||| (if dby S n i then bs i else 0)) 0 C 0
theorem sm_driedBy {n f C N h : Nat} (w : nc_H) (hs : shp (w.1 874 0) f C N h) (hn : n < 10) : nc_Call m_X12_driedBy [mO, .inl (nI n)] w = some (some (.inl (dbs (w.1 874 0) C n)), w) := by
  obtain ⟨-, h1, -, -, -, hC, -, -⟩ := hs
  rw [qc_X12_driedBy]
  have key := it_loop (R := fun i (x : Int32) => nc_Run m_X12_driedBy 4 [some mO, some (.inl (nI n)), some (.inl x), some (.inl (nI i))] [] w) (st := fun i (x : Int32) => x ||| (if dby (w.1 874 0) n i then bs i else 0)) (I := fun _ _ => True) (n := C) (out := fun x => some (some (.inl x), w)) ?_ ?_ C 0 0 (by omega) trivial
  · exact key
  · intro i x hi _
    refine ⟨?_, trivial⟩
    show nc_Run m_X12_driedBy 4 _ _ w = nc_Run m_X12_driedBy 4 _ _ w
    rw [qr_X12_driedBy_4, h1, if_neg (by rw [nI_leI (by omega) (by omega)]; omega), sm_isDry, nc_bI_v]
    by_cases k1 : bq (w.1 874 0 77) (nI i)
    · rw [if_pos (tI_ne.mpr k1), nc_li_v, nc_li_v, nI_1, if_neg (show ¬ dby (w.1 874 0) n i from fun q => q.1 k1)]
    · rw [if_neg (fun q => q (tI_eq0.mpr k1)), sm_knows w (by omega) hn, nc_bI_v]
      by_cases k2 : kn (w.1 874 0) i n
      · rw [if_neg (tI_ne.mpr k2), pl_bd 79 i (by omega), pl_bd 21 i (by omega)]
        by_cases k3 : w.1 874 0 (79 + i) + 1 < w.1 874 0 (21 + i)
        · rw [if_pos k3, nc_li_v, nc_li_v, nI_1, if_neg (show ¬ dby (w.1 874 0) n i from fun q => q.2.2 k3)]
        · rw [if_neg k3, nc_li_v, nc_li_v, nI_1, if_pos (show dby (w.1 874 0) n i from ⟨k1, k2, k3⟩)]
          rfl
      · rw [if_pos (tI_eq0.mpr k2), nc_li_v, nc_li_v, nI_1, if_neg (show ¬ dby (w.1 874 0) n i from fun q => k2 q.2.1)]
  · intro x _
    show nc_Run m_X12_driedBy 4 _ _ w = _
    rw [qr_X12_driedBy_4, h1, if_pos (by rw [nI_leI (by omega) (by omega)]; omega)]
