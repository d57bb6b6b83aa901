/-! A sentence: the model's steps. -/
section SB
variable {w w' v v' : nc_H} {b : Nat → Nat} {sz lim n i : Nat} {t : Tok} {f C N T D m o dp : Nat} {bs : Nat → Int32}
noncomputable abbrev Mo (v : nc_H) : Option nc_R := nc_Run m_X12_sentence 48 [some mO, some (.inl 1), none] [] v
noncomputable abbrev Nt (v : nc_H) : Option nc_R := nc_Run m_X12_nots 0 [some mO] [] v
noncomputable abbrev Jn (x : Int32) (v : nc_H) : Option nc_R := nc_Run m_X12_joins 0 [some mO, some (.inl x)] [] v
theorem Nt_c : nc_Call m_X12_nots [mO] v = Nt v := (qc_X12_nots 0 v).trans (qr_X12_nots_0 0 v).symm
theorem Jn_c {x : Int32} : nc_Call m_X12_joins [mO, .inl x] v = Jn x v := (qc_X12_joins 0 x v).trans (qr_X12_joins_0 0 x v).symm
theorem le0 {T : Nat} (hT : T < 100) : (nI T ≤ (0 : Int32)) ↔ T = 0 := by
  rw [show (0 : Int32) = nI 0 from rfl, nI_leI (by omega) (by omega)]
  omega
theorem tp {T : Nat} : nI (T + 1) - 1 = nI T := nI_pred T
/-- nothing to take from the stack -/
theorem Nt_0 (h : v.1 12 0 42 = nI T) (hT : T < 45) (hs : T = 0 ∨ v.1 907 0 (T - 1) ≠ 20) : Nt v = some (none, v) := by
  show nc_Run m_X12_nots 0 [some mO] [] v = _
  rw [qr_X12_nots_0, h]
  by_cases q : T = 0
  · rw [if_pos ((le0 (by omega)).mpr q)]
  · obtain ⟨T, rfl⟩ : ∃ k, T = k + 1 := ⟨T - 1, by omega⟩
    rw [if_neg (fun z => q ((le0 (by omega)).mp z)), tp, bd8 T 45 (by omega) (by decide), if_pos (show v.1 907 0 T ≠ 20 from hs.resolve_left q)]
theorem Jn_0 {x : Int32} (h : v.1 12 0 42 = nI T) (hT : T < 45) (hs : T = 0 ∨ (v.1 907 0 (T - 1) ≠ 21 ∧ (v.1 907 0 (T - 1) ≠ 22 ∨ x ≠ 22))) : Jn x v = some (none, v) := by
  show nc_Run m_X12_joins 0 [some mO, some (.inl x)] [] v = _
  rw [qr_X12_joins_0, h]
  by_cases q : T = 0
  · rw [if_pos ((le0 (by omega)).mpr q)]
  · obtain ⟨T, rfl⟩ : ∃ k, T = k + 1 := ⟨T - 1, by omega⟩
    obtain ⟨s1, s2⟩ := hs.resolve_left q
    have s1' : v.1 907 0 T ≠ 21 := s1
    rw [if_neg (fun z => q ((le0 (by omega)).mp z)), tp, bd8 T 45 (by omega) (by decide), if_neg s1', bd8 T 45 (by omega) (by decide)]
    by_cases q2 : v.1 907 0 T ≠ 22
    · rw [if_pos q2]
    · rw [if_neg q2, if_pos (s2.resolve_left q2)]
/-- one is taken -/
def vPop (v : nc_H) (T m : Nat) (x : Int32) : nc_H := vCod (nc_si v 12 0 42 (nI T)) m x 0 0
theorem Nt_1 {D : Nat} (h : v.1 12 0 42 = nI (T + 1)) (hT : T < 44) (hs : v.1 907 0 T = 20) (hd : v.1 12 0 43 = nI (D + 1)) (hm : v.1 12 0 40 = nI m) (hm2 : m < 40) : Nt v = Nt (vCod (nc_si (nc_si v 12 0 42 (nI T)) 12 0 43 (nI D)) m 20 0 0) := by
  have e1 : (nc_si v 12 0 42 (nI T)).1 12 0 43 = nI (D + 1) := by rw [si_k (by decide)]; exact hd
  have e2 : (nc_si (nc_si v 12 0 42 (nI T)) 12 0 43 (nI D)).1 12 0 40 = nI m := by rw [si_k (by decide), si_k (by decide)]; exact hm
  have z : ¬ nI (T + 1) ≤ (0 : Int32) := fun z => by have := (le0 (by omega)).mp z; omega
  show nc_Run m_X12_nots 0 [some mO] [] v = _
  rw [qr_X12_nots_0, h, if_neg z, tp, bd8 T 45 (by omega) (by decide), if_neg (fun z => z hs), nc_lt_v, e1, tp, nc_lt_v, sm_code e2 hm2, nc_bV_v]
theorem Jn_1 {x : Int32} (h : v.1 12 0 42 = nI (T + 1)) (hT : T < 44) (hs : v.1 907 0 T = 21 ∨ (v.1 907 0 T = 22 ∧ x = 22)) (hm : v.1 12 0 40 = nI m) (hm2 : m < 40) : Jn x v = Jn x (vPop v T m (v.1 907 0 T)) := by
  have e2 : (nc_si v 12 0 42 (nI T)).1 12 0 40 = nI m := by rw [si_k (by decide)]; exact hm
  have e3 : (nc_si v 12 0 42 (nI T)).1 12 0 42 = nI T := si_s
  have e9 : (nc_si v 12 0 42 (nI T)).1 907 0 T = v.1 907 0 T := by rw [si_t (by decide)]
  have z : ¬ nI (T + 1) ≤ (0 : Int32) := fun z => by have := (le0 (by omega)).mp z; omega
  show nc_Run m_X12_joins 0 [some mO, some (.inl x)] [] v = _
  by_cases q : v.1 907 0 T = 21
  · rw [qr_X12_joins_0, h, if_neg z, tp, bd8 T 45 (by omega) (by decide), if_pos q, nc_lt_v, e3, bd8 T 45 (by omega) (by decide), e9, sm_code e2 hm2, nc_bV_v]
    rfl
  · obtain ⟨q1, q2⟩ := hs.resolve_left q
    rw [qr_X12_joins_0, h, if_neg z, tp, bd8 T 45 (by omega) (by decide), if_neg q, bd8 T 45 (by omega) (by decide), if_neg (fun z => z q1), if_neg (fun z => z q2), nc_lt_v, e3, bd8 T 45 (by omega) (by decide), e9, sm_code e2 hm2, nc_bV_v]
    rfl
theorem wl_12 : (28530 : Int64) = enc8 (wrd 12) := by decide +kernel
theorem wl_13 : (6385252 : Int64) = enc8 (wrd 13) := by decide +kernel
theorem wl_14 : (7237492 : Int64) = enc8 (wrd 14) := by decide +kernel
theorem wl_15 : (6582905 : Int64) = enc8 (wrd 15) := by decide +kernel
theorem wl_16 : (27995156865901924 : Int64) = enc8 (wrd 16) := by decide +kernel
theorem wl_17 : (24948 : Int64) = enc8 (wrd 17) := by decide +kernel
theorem wl_18 : (461414299507 : Int64) = enc8 (wrd 18) := by decide +kernel
theorem wl_19 : (448377483876 : Int64) = enc8 (wrd 19) := by decide +kernel
theorem wl_20 : (1835625579 : Int64) = enc8 (wrd 20) := by decide +kernel
theorem wl_21 : (444150998382 : Int64) = enc8 (wrd 21) := by decide +kernel
theorem wl_22 : (110429873534067 : Int64) = enc8 (wrd 22) := by decide +kernel
theorem wl_23 : (121450625394034 : Int64) = enc8 (wrd 23) := by decide +kernel
/-- the leaf at hand -/
def lf (t : Tok) : Int32 := if 15 ≤ wq t ∧ wq t < 24 then nI (wq t - 15) else -1
theorem sm_leafOf (hT : MT v t) (hk : tkk sz lim t) : nc_Call m_X12_leafOf [mO] v = some (some (.inl (lf t)), v) := by
  have e : ∀ j, j < 24 → nc_Call m_X12_isWord [mO, .inr (.inl (enc8 (wrd j)))] v = some (some (.inl (tI (wq t = j))), v) := fun j hj => sm_wq hj hT hk
  have wle := wq_le (t := t)
  unfold lf
  rw [qc_X12_leafOf, wl_15, e 15 (by decide), nc_bI_v]
  by_cases q : wq t = 15
  · rw [tI_t q, if_neg (by decide), if_pos (by omega), q]; rfl
  rw [tI_f q, if_pos rfl, wl_16, e 16 (by decide), nc_bI_v]
  by_cases q : wq t = 16
  · rw [tI_t q, if_neg (by decide), if_pos (by omega), q]; rfl
  rw [tI_f q, if_pos rfl, wl_17, e 17 (by decide), nc_bI_v]
  by_cases q : wq t = 17
  · rw [tI_t q, if_neg (by decide), if_pos (by omega), q]; rfl
  rw [tI_f q, if_pos rfl, wl_18, e 18 (by decide), nc_bI_v]
  by_cases q : wq t = 18
  · rw [tI_t q, if_neg (by decide), if_pos (by omega), q]; rfl
  rw [tI_f q, if_pos rfl, wl_19, e 19 (by decide), nc_bI_v]
  by_cases q : wq t = 19
  · rw [tI_t q, if_neg (by decide), if_pos (by omega), q]; rfl
  rw [tI_f q, if_pos rfl, wl_20, e 20 (by decide), nc_bI_v]
  by_cases q : wq t = 20
  · rw [tI_t q, if_neg (by decide), if_pos (by omega), q]; rfl
  rw [tI_f q, if_pos rfl, wl_21, e 21 (by decide), nc_bI_v]
  by_cases q : wq t = 21
  · rw [tI_t q, if_neg (by decide), if_pos (by omega), q]; rfl
  rw [tI_f q, if_pos rfl, wl_22, e 22 (by decide), nc_bI_v]
  by_cases q : wq t = 22
  · rw [tI_t q, if_neg (by decide), if_pos (by omega), q]; rfl
  rw [tI_f q, if_pos rfl, wl_23, e 23 (by decide), nc_bI_v]
  by_cases q : wq t = 23
  · rw [tI_t q, if_neg (by decide), if_pos (by omega), q]; rfl
  rw [tI_f q, if_pos rfl, if_neg (by omega)]
/-- the model's loop -/
theorem Mo_o {r : Int32} {v1 : nc_H} (h44 : v.1 12 0 44 = 0) (ho : nc_Call m_X12_operand [mO] v = some (some (.inl r), v1)) : Mo v = if r ≠ 0 then Mo v1 else some (some (.inl ((-1) - (v1.1 12 0 16))), v1) := by
  show nc_Run m_X12_sentence 48 [some mO, some (.inl 1), none] [] v = _
  rw [qr_X12_sentence_48, if_neg (by decide), if_pos h44, if_pos h44, ho, nc_bI_v]
theorem Mo_b {r : Int32} {v1 : nc_H} (h44 : v.1 12 0 44 = 1) (h11 : v.1 12 0 11 ≠ 0) (ho : nc_Call m_X12_behind [mO] v = some (some (.inl r), v1)) : Mo v = if r ≠ 0 then Mo v1 else some (some (.inl ((-1) - (v1.1 12 0 16))), v1) := by
  have z : ¬ v.1 12 0 44 = 0 := by rw [h44]; decide
  show nc_Run m_X12_sentence 48 [some mO, some (.inl 1), none] [] v = _
  rw [qr_X12_sentence_48, if_neg (by decide), if_neg z, if_pos h11, if_neg z, ho, nc_bI_v]
/-- 'and' behind -/
def vPsh (v : nc_H) (T : Nat) (x : Int32) : nc_H := nc_si (nc_si (nc_si v 907 0 T x) 12 0 42 (nI (T + 1))) 12 0 44 0
theorem be_and {u v2 : nc_H} (hn : nc_Call m_X12_nots [mO] v = some (none, u)) (hj : nc_Call m_X12_joins [mO, .inl 21] u = some (none, v2)) (Tu : MT u t) (T2 : MT v2 t) (hk : tkk sz lim t) (hq : wq t = 13) (h42 : v2.1 12 0 42 = nI T) (hT : T < 45) : nc_Call m_X12_behind [mO] v = nc_bV (nc_Call m_X12_next [mO] (vPsh v2 T 21)) fun w31 => some (some (.inl 1), w31) := by
  have e42 : (nc_si v2 907 0 T 21).1 12 0 42 = nI T := by rw [si_t (by decide)]; exact h42
  rw [qc_X12_behind, hn, nc_bV_v, wl_13, sm_wq (by decide) Tu hk, nc_bI_v, tI_t hq, if_pos (by decide), sm_wq (by decide) Tu hk, nc_bI_v, tI_t hq, if_neg (by decide), hj, nc_bV_v, sm_wq (by decide) T2 hk, nc_bI_v, tI_t hq, if_neg (by decide), h42, bd8 T 45 hT (by decide), nc_lt_v, e42, nc_lt_v, nc_lt_v, nI_1]
  rfl
theorem be_or {u v2 : nc_H} (hn : nc_Call m_X12_nots [mO] v = some (none, u)) (hj : nc_Call m_X12_joins [mO, .inl 22] u = some (none, v2)) (Tu : MT u t) (T2 : MT v2 t) (hk : tkk sz lim t) (hq : wq t = 12) (h42 : v2.1 12 0 42 = nI T) (hT : T < 45) : nc_Call m_X12_behind [mO] v = nc_bV (nc_Call m_X12_next [mO] (vPsh v2 T 22)) fun w31 => some (some (.inl 1), w31) := by
  have e42 : (nc_si v2 907 0 T 22).1 12 0 42 = nI T := by rw [si_t (by decide)]; exact h42
  rw [qc_X12_behind, hn, nc_bV_v, wl_13, sm_wq (by decide) Tu hk, nc_bI_v, tI_f (by omega), if_neg (fun z => z rfl), wl_12, sm_wq (by decide) Tu hk, nc_bI_v, tI_t hq, if_neg (by decide), sm_wq (by decide) Tu hk, nc_bI_v, tI_f (show ¬ wq t = 13 by omega), if_pos rfl, hj, nc_bV_v, sm_wq (by decide) T2 hk, nc_bI_v, tI_f (by omega), if_pos rfl, h42, bd8 T 45 hT (by decide), nc_lt_v, e42, nc_lt_v, nc_lt_v, nI_1]
  rfl
theorem be_els {u v2 : nc_H} (hn : nc_Call m_X12_nots [mO] v = some (none, u)) (hj : nc_Call m_X12_joins [mO, .inl 22] u = some (none, v2)) (Tu : MT u t) (T2 : MT v2 t) (hk : tkk sz lim t) (hq : wq t ≠ 13) (hq2 : wq t ≠ 12) : nc_Call m_X12_behind [mO] v = if ¬ (t.1 = 5 ∧ t.2.2.2.1 = 41) ∨ v2.1 12 0 42 = 0 then nc_bI (nc_Call m_X12_bad [mO, .inl 1] v2) (fun r38 w37 => nc_z r38 <| some (some (.inl r38), w37)) else nc_bV (nc_Call m_X12_next [mO] (nc_si (nc_si v2 12 0 42 (v2.1 12 0 42 - 1)) 12 0 43 (v2.1 12 0 43 - 1))) fun w41 => some (some (.inl 1), w41) := by
  have e43 : (nc_si v2 12 0 42 (v2.1 12 0 42 - 1)).1 12 0 43 = v2.1 12 0 43 := by rw [si_k (by decide)]
  rw [qc_X12_behind, hn, nc_bV_v, wl_13, sm_wq (by decide) Tu hk, nc_bI_v, tI_f hq, if_neg (fun z => z rfl), wl_12, sm_wq (by decide) Tu hk, nc_bI_v, tI_f hq2, if_pos rfl, hj, nc_bV_v, show (41 : Int32) = nI 41 from rfl, sm_isSign T2 hk (by decide), nc_bI_v]
  by_cases q : t.1 = 5 ∧ t.2.2.2.1 = 41
  · rw [tI_t q, if_neg (by decide)]
    by_cases q2 : v2.1 12 0 42 = 0
    · rw [if_neg (fun z => z q2), if_pos (Or.inr q2)]
    · rw [if_pos q2, if_neg (fun z => z.elim (fun z => z q) q2), nc_lt_v, e43, nc_lt_v]
  · rw [tI_f q, if_pos rfl, if_pos (Or.inl q)]
end SB
