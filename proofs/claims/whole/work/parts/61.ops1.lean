/-! CALLS THAT ONLY READ. -/
abbrev cO : nc_V := .inr (.inr (11, 0))
def wrd : Nat → List Nat := fun k => match k with
  | 0 => [102, 97, 114, 109]
  | 1 => [99, 111, 119]
  | 2 => [110, 101, 119, 115]
  | 3 => [108, 105, 101]
  | 4 => [112, 108, 97, 105, 110]
  | 5 => [115, 99, 97, 110, 100, 97, 108]
  | 6 => [119, 97, 114]
  | 7 => [119, 101, 97, 116, 104, 101, 114]
  | 8 => [104, 101, 100, 103, 101]
  | 9 => [104, 101, 97, 114, 115]
  | 10 => [102, 111, 117, 110, 100]
  | 11 => [100, 97, 121]
  | 12 => [111, 114]
  | 13 => [97, 110, 100]
  | 14 => [110, 111, 116]
  | 15 => [100, 114, 121]
  | 16 => [99, 117, 114, 100, 108, 101, 100]
  | 17 => [97, 116]
  | 18 => [107, 110, 111, 119, 115]
  | 19 => [104, 101, 97, 114, 100]
  | 20 => [109, 105, 108, 107]
  | 21 => [103, 105, 118, 101, 110]
  | 22 => [100, 111, 117, 98, 116, 115]
  | _ => [110, 117, 109, 98, 101, 114]
/-- where the model's words stand among the class's -/
def prm : Nat → Nat := fun k => if k < 3 then k else if k < 7 then k + 1 else if k = 7 then 3 else k
def TW (w : nc_H) : Prop := (∀ k, k < 24 → w.2 742 0 k = enc5 (wrd k)) ∧ (∀ k, k < 24 → w.2 878 0 k = enc8 (wrd (prm k)))
def Inv (w : nc_H) : Prop := (∃ f C N h d, NW w f C N h d) ∧ IM w ∧ CH w ∧ PL w ∧ PT w ∧ TP w ∧ BK w ∧ TW w
/-- both answer alike, and all holds on -/
def Op (w : nc_H) (A B : nc_H → Option nc_R) : Prop := ∃ r w1 w2, A w = some (some (.inl r), w1) ∧ B w1 = some (some (.inl r), w2) ∧ Inv w2
def rng (x : Int32) (n : Nat) : Prop := ∃ k, k < n ∧ x = nI k
section RG
variable {w : nc_H} {x : Int32} {n k : Nat}
theorem rng_M (hn : n < 2 ^ 30) : (0 ≤ x ∧ x ≤ nI n - 1) ↔ rng x n := by
  constructor
  · rintro ⟨h1, h2⟩
    rcases pk_ix x (n := n) (by omega) with q | q | ⟨j, j1, j2⟩
    · exact absurd h1 (Int32.not_le.mpr q)
    · exfalso
      cases n with
      | zero =>
        have := Int32.le_trans h1 h2
        exact absurd this (by decide)
      | succ m =>
        rw [nI_pred] at h2
        have := Int32.le_trans q h2
        rw [nI_leI (by omega) (by omega)] at this
        omega
    · exact ⟨j, j1, j2⟩
  · rintro ⟨j, j1, rfl⟩
    obtain ⟨m, rfl⟩ : ∃ m, n = m + 1 := ⟨n - 1, by omega⟩
    rw [nI_pred]
    exact ⟨nI_pos' (by omega), nI_le (by omega) (by omega)⟩
theorem rng_C (hn : n < 2 ^ 30) : (¬ x < 0 ∧ ¬ nI n ≤ x) ↔ rng x n := by
  constructor
  · rintro ⟨h1, h2⟩
    rcases pk_ix x (n := n) (by omega) with q | q | ⟨j, j1, j2⟩
    · exact absurd q h1
    · exact absurd q h2
    · exact ⟨j, j1, j2⟩
  · rintro ⟨j, j1, rfl⟩
    exact ⟨nI_pos (by omega), nI_ge j1 (by omega)⟩
theorem sc_in_t {A : Option nc_R} {B : Option nc_R} (hn : n < 2 ^ 30) (h : rng x n) : (if x < 0 then A else if nI n ≤ x then A else B) = B := by
  have := (rng_C hn).mpr h
  rw [if_neg this.1, if_neg this.2]
theorem sc_in_f {A : Option nc_R} {B : Option nc_R} (hn : n < 2 ^ 30) (h : ¬ rng x n) : (if x < 0 then A else if nI n ≤ x then A else B) = A := by
  by_cases h1 : x < 0
  · rw [if_pos h1]
  · rw [if_neg h1]
    by_cases h2 : nI n ≤ x
    · rw [if_pos h2]
    · exact absurd ((rng_C hn).mp ⟨h1, h2⟩) h
theorem sc_isCow_t (h2 : w.1 2 0 2 = nI n) (hn : n < 2 ^ 30) (h : rng x n) : nc_Call m_X11_isCow [cO, .inl x] w = some (some (.inl 1), w) := by
  rw [qc_X11_isCow, h2, sc_in_t hn h]
theorem sc_isCow_f (h2 : w.1 2 0 2 = nI n) (hn : n < 2 ^ 30) (h : ¬ rng x n) : nc_Call m_X11_isCow [cO, .inl x] w = some (some (.inl 0), w) := by
  rw [qc_X11_isCow, h2, sc_in_f hn h]
theorem sc_isNews_t (h2 : w.1 2 0 3 = nI n) (hn : n < 2 ^ 30) (h : rng x n) : nc_Call m_X11_isNews [cO, .inl x] w = some (some (.inl 1), w) := by
  rw [qc_X11_isNews, h2, sc_in_t hn h]
theorem sc_isNews_f (h2 : w.1 2 0 3 = nI n) (hn : n < 2 ^ 30) (h : ¬ rng x n) : nc_Call m_X11_isNews [cO, .inl x] w = some (some (.inl 0), w) := by
  rw [qc_X11_isNews, h2, sc_in_f hn h]
theorem sc_isFarm_t (h2 : w.1 2 0 1 = nI n) (hn : n < 2 ^ 30) (h : rng x n) : nc_Call m_X11_isFarm [cO, .inl x] w = some (some (.inl 1), w) := by
  rw [qc_X11_isFarm, h2, sc_in_t hn h]
theorem sc_isFarm_f (h2 : w.1 2 0 1 = nI n) (hn : n < 2 ^ 30) (h : ¬ rng x n) : nc_Call m_X11_isFarm [cO, .inl x] w = some (some (.inl 0), w) := by
  rw [qc_X11_isFarm, h2, sc_in_f hn h]
theorem mm_isCow_t (h2 : w.1 874 0 1 = nI n) (hn : n < 2 ^ 30) (h : rng x n) : nc_Call m_X12_isCow [mO, .inl x] w = some (some (.inl 1), w) := by
  rw [sm_isCow, h2, tI_t ((rng_M hn).mpr h)]
theorem mm_isCow_f (h2 : w.1 874 0 1 = nI n) (hn : n < 2 ^ 30) (h : ¬ rng x n) : nc_Call m_X12_isCow [mO, .inl x] w = some (some (.inl 0), w) := by
  rw [sm_isCow, h2, tI_f (fun q => h ((rng_M hn).mp q))]
theorem mm_isNews_t (h2 : w.1 874 0 2 = nI n) (hn : n < 2 ^ 30) (h : rng x n) : nc_Call m_X12_isNews [mO, .inl x] w = some (some (.inl 1), w) := by
  rw [sm_isNews, h2, tI_t ((rng_M hn).mpr h)]
theorem mm_isNews_f (h2 : w.1 874 0 2 = nI n) (hn : n < 2 ^ 30) (h : ¬ rng x n) : nc_Call m_X12_isNews [mO, .inl x] w = some (some (.inl 0), w) := by
  rw [sm_isNews, h2, tI_f (fun q => h ((rng_M hn).mp q))]
theorem mm_isFarm_t (h2 : w.1 874 0 0 = nI n) (hn : n < 2 ^ 30) (h : rng x n) : nc_Call m_X12_isFarm [mO, .inl x] w = some (some (.inl 1), w) := by
  rw [sm_isFarm, h2, tI_t ((rng_M hn).mpr h)]
theorem mm_isFarm_f (h2 : w.1 874 0 0 = nI n) (hn : n < 2 ^ 30) (h : ¬ rng x n) : nc_Call m_X12_isFarm [mO, .inl x] w = some (some (.inl 0), w) := by
  rw [sm_isFarm, h2, tI_f (fun q => h ((rng_M hn).mp q))]
end RG
/-- thrown set -/
abbrev thr (w : nc_H) (x : Int32) : nc_H := row w 12 0 (upd (w.1 12 0) 0 x)
section TH
variable {w : nc_H} {x : Int32}
theorem thr_t {t : Nat} (h : t ≠ 12) : (thr w x).1 t = w.1 t := row_t h
theorem thr_k {k : Nat} (h : k ≠ 0) : (thr w x).1 12 0 k = w.1 12 0 k := by
  show (row w 12 0 _).1 12 0 k = _
  rw [row_s, upd_n h]
theorem thr_0 : (thr w x).1 12 0 0 = x := by
  show (row w 12 0 _).1 12 0 0 = _
  rw [row_s, upd_s]
theorem thr_si : nc_si w 12 0 0 x = thr w x := si_rw
/-- what names none of these rows stays -/
theorem Inv_big {w w' : nc_H} (hI : (∃ f C N h d, NW w f C N h d) ∧ IM w) (h1 : ∀ t a, sD t a ∨ sL t a ∨ sS t a ∨ sM t a → w'.1 t a = w.1 t a) (h2 : ∀ t a, sD t a ∨ sM t a → w'.2 t a = w.2 t a) (h3 : w'.1 12 0 24 = w.1 12 0 24) : (∃ f C N h d, NW w' f C N h d) ∧ IM w' := by
  obtain ⟨⟨f, C, N, h, d, q⟩, q2⟩ := hI
  exact ⟨⟨f, C, N, h, d, NW_fr q h1 h2 h3⟩, IM_fr q2 (fun t a ht _ => h1 t a ht) (fun t a ht _ => h2 t a ht)⟩
theorem s_n12 {t a : Nat} (h : sD t a ∨ sL t a ∨ sS t a ∨ sM t a) : t ≠ 12 := by
  unfold sD sL sS sM at h
  omega
theorem Inv_thr (hI : Inv w) : Inv (thr w x) := by
  obtain ⟨a1, a2, a3, a4, a5, a6, a7, a8⟩ := hI
  have B := Inv_big (w' := thr w x) ⟨a1, a2⟩ (fun t a ht => by rw [thr_t (s_n12 ht)]) (fun _ _ _ => rfl) (thr_k (by decide))
  refine ⟨B.1, B.2, ?_, ?_, ?_, ?_, ?_, a8⟩
  · unfold CH
    simp (disch := omega) only [thr_k, thr_t]
    exact a3
  · unfold PL
    simp (disch := omega) only [thr_k, thr_t]
    exact a4
  · unfold PT
    simp (disch := omega) only [thr_k, thr_t]
    exact a5
  · unfold TP
    simp (disch := omega) only [thr_k, thr_t]
    exact a6
  · unfold BK
    simp (disch := omega) only [thr_k, thr_t]
    exact a7
end TH
section OR
variable {w : nc_H}
theorem op_fault (hI : Inv w) : Op w (nc_Call m_X11_fault [cO]) (nc_Call m_X12_fault [mO]) := by
  refine ⟨_, _, _, qc_X11_fault 0 w, ?_, Inv_thr (x := 0) hI⟩
  rw [qc_X12_fault, nc_lt_v, thr_si, thr_k (by decide), hI.2.2.2.2.2.1.2.2]
theorem op_told (hI : Inv w) : Op w (nc_Call m_X11_told [cO]) (nc_Call m_X12_told [mO]) := by
  refine ⟨_, _, _, qc_X11_told 0 w, ?_, Inv_thr (x := 0) hI⟩
  rw [qc_X12_told, nc_lt_v, thr_si, thr_k (by decide), thr_k (by decide)]
  rcases hI.2.2.1.1 with ⟨q1, q2⟩ | ⟨q1, q2⟩
  · rw [if_pos q1, q2]
  · rw [if_neg (by rw [q1]; decide), q2]
theorem op_parted (hI : Inv w) : Op w (nc_Call m_X11_parted [cO]) (nc_Call m_X12_parted [mO]) := by
  refine ⟨_, _, _, qc_X11_parted 0 w, ?_, Inv_thr (x := 0) hI⟩
  rw [qc_X12_parted, nc_lt_v, thr_si, thr_k (by decide), thr_k (by decide)]
  rcases hI.2.2.2.2.1 with ⟨q1, q2⟩ | ⟨q1, q2⟩
  · rw [if_pos q1, q2]
  · rw [if_neg (by rw [q1]; decide), q2]
theorem op_surely (hI : Inv w) : Op w (nc_Call m_X11_surely [cO]) (nc_Call m_X12_surely [mO]) := by
  refine ⟨_, _, _, qc_X11_surely 0 w, ?_, Inv_thr (x := 0) hI⟩
  rw [qc_X12_surely, nc_lt_v, thr_si, thr_k (by decide), thr_k (by decide)]
  rcases hI.2.2.1.2 with ⟨q1, q2, q3⟩ | ⟨q1, q2, q3⟩
  · rw [if_pos q1, q2]
  · rw [if_neg (by rw [q1]; decide), q2]
theorem op_ask (hI : Inv w) : Op w (nc_Call m_X11_ask [cO]) (nc_Call m_X12_ask [mO]) := by
  refine ⟨_, _, _, qc_X11_ask 0 w, ?_, Inv_thr (x := 0) hI⟩
  rw [qc_X12_ask, nc_lt_v, thr_si, thr_k (by decide), thr_k (by decide)]
  rcases hI.2.2.1.2 with ⟨q1, q2, q3⟩ | ⟨q1, q2, q3⟩
  · rw [if_pos q1, q3]
  · rw [if_neg (by rw [q1]; decide), q3]
theorem op_planAt (hI : Inv w) (x : Int32) : Op w (nc_Call m_X11_planAt [cO, .inl x]) (nc_Call m_X12_planAt [mO, .inl x]) := by
  have key : ∃ r, nc_Call m_X11_planAt [cO, .inl x] w = some (some (.inl r), w) ∧ nc_Call m_X12_planAt [mO, .inl x] w = some (some (.inl r), thr w 0) := by
    rw [qc_X11_planAt, qc_X12_planAt, nc_lt_v, thr_si, thr_k (by decide), sm_isIn, nc_bI_v]
    rcases hI.2.2.2.1 with ⟨q1, q2⟩ | ⟨n, n1, n3, q1, q2, q3⟩
    · have h0 : ¬ rng x 0 := fun ⟨k, k1, _⟩ => Nat.not_lt_zero k k1
      rw [show w.1 8 0 5 = nI 0 from q1, sc_in_f (n := 0) (by decide) h0, q2, tI_f (fun q => h0 ((rng_M (n := 0) (by decide)).mp ⟨q.1, Int32.le_trans q.2 (by decide)⟩)), if_pos rfl]
      exact ⟨_, rfl, rfl⟩
    · rw [q1, q2]
      by_cases b : rng x n
      · rw [sc_in_t (by omega) b, tI_t ((rng_M (by omega)).mpr b), if_neg (by decide)]
        obtain ⟨k, k1, rfl⟩ := b
        rw [bd8 k 3 (by omega) (by decide), bd8 k 3 (by omega) (by decide), thr_t (by decide), q3 k k1]
        exact ⟨_, rfl, rfl⟩
      · rw [sc_in_f (by omega) b, tI_f (fun q => b ((rng_M (by omega)).mp q)), if_pos rfl]
        exact ⟨_, rfl, rfl⟩
  obtain ⟨r, k1, k2⟩ := key
  exact ⟨r, w, _, k1, k2, Inv_thr hI⟩
end OR
