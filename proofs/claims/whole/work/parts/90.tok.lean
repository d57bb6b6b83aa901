/-! TOKENS, and how the model reads them. -/
section TK
def bI (a : Bool) : Int32 := if a = true then 1 else 0
theorem bI_01 {a : Bool} : bI a = 0 ∨ bI a = 1 := by cases a <;> decide
theorem bI_ne {a : Bool} : bI a ≠ 0 ↔ a = true := by cases a <;> decide
theorem bI_0 {a : Bool} : bI a = 0 ↔ a = false := by cases a <;> decide
theorem bI_in {a c : Bool} : bI a = bI c ↔ a = c := by cases a <;> cases c <;> decide
theorem tI_bI {p : Prop} [Decidable p] : tI p = bI (decide p) := by
  by_cases q : p
  · rw [tI_t q, decide_eq_true q]; rfl
  · rw [tI_f q, decide_eq_false q]; rfl
/-- how many from p on, at most n, have q -/
def rnf (q : Nat → Bool) : Nat → Nat → Nat
  | 0, _ => 0
  | n + 1, p => if q p = true then rnf q n (p + 1) + 1 else 0
theorem rnf_le {q : Nat → Bool} : ∀ n p, rnf q n p ≤ n
  | 0, _ => Nat.le_refl 0
  | n + 1, p => by
    unfold rnf
    have := rnf_le (q := q) n (p + 1)
    split
    · omega
    · omega
theorem rnf_in {q : Nat → Bool} : ∀ n p i, i < rnf q n p → q (p + i) = true
  | 0, _, i => fun h => absurd h (Nat.not_lt_zero i)
  | n + 1, p, i => by
    intro h
    unfold rnf at h
    by_cases e : q p = true
    · rw [if_pos e] at h
      cases i with
      | zero => exact e
      | succ i =>
        have := rnf_in (q := q) n (p + 1) i (by omega)
        rw [show p + (i + 1) = p + 1 + i by omega]
        exact this
    · rw [if_neg e] at h
      exact absurd h (Nat.not_lt_zero i)
theorem rnf_out {q : Nat → Bool} : ∀ n p, rnf q n p < n → q (p + rnf q n p) = false
  | 0, _ => fun h => absurd h (Nat.not_lt_zero _)
  | n + 1, p => by
    intro h
    unfold rnf at h ⊢
    by_cases e : q p = true
    · rw [if_pos e] at h ⊢
      have := rnf_out (q := q) n (p + 1) (by omega)
      rw [show p + (rnf q n (p + 1) + 1) = p + 1 + rnf q n (p + 1) by omega]
      exact this
    · rw [if_neg e]
      exact Bool.eq_false_iff.mpr e
theorem rnf_eq {q : Nat → Bool} : ∀ n p L, L ≤ n → (∀ i, i < L → q (p + i) = true) → (L < n → q (p + L) = false) → rnf q n p = L
  | 0, _, L => fun h _ _ => by unfold rnf; omega
  | n + 1, p, L => by
    intro h h1 h2
    unfold rnf
    cases L with
    | zero => rw [if_neg (show ¬ q p = true from Bool.eq_false_iff.mp (h2 (by omega)))]
    | succ L =>
      rw [if_pos (show q p = true from h1 0 (by omega)), rnf_eq n (p + 1) L (by omega) (fun i hi => ?_) (fun hl => ?_)]
      · rw [show p + 1 + i = p + (i + 1) by omega]
        exact h1 (i + 1) (by omega)
      · rw [show p + 1 + L = p + (L + 1) by omega]
        exact h2 (by omega)
def smB (c : Nat) : Bool := decide (97 ≤ c) && decide (c ≤ 122)
def dgB (c : Nat) : Bool := decide (48 ≤ c) && decide (c ≤ 57)
def alB (c : Nat) : Bool := smB c || dgB c
def blB (c : Nat) : Bool := decide (c = 32) || decide (c = 10)
def sgB (c : Nat) : Bool := decide (c = 59) || decide (c = 40) || decide (c = 41) || decide (60 ≤ c) && decide (c ≤ 62)
theorem smB_t {c : Nat} : smB c = true ↔ 97 ≤ c ∧ c ≤ 122 := by
  unfold smB
  rw [Bool.and_eq_true, decide_eq_true_iff, decide_eq_true_iff]
theorem dgB_t {c : Nat} : dgB c = true ↔ 48 ≤ c ∧ c ≤ 57 := by
  unfold dgB
  rw [Bool.and_eq_true, decide_eq_true_iff, decide_eq_true_iff]
theorem alB_t {c : Nat} : alB c = true ↔ smB c = true ∨ dgB c = true := by
  unfold alB
  rw [Bool.or_eq_true]
theorem blB_t {c : Nat} : blB c = true ↔ c = 32 ∨ c = 10 := by
  unfold blB
  rw [Bool.or_eq_true, decide_eq_true_iff, decide_eq_true_iff]
theorem sgB_t {c : Nat} : sgB c = true ↔ ((c = 59 ∨ c = 40) ∨ c = 41) ∨ (60 ≤ c ∧ c ≤ 62) := by
  unfold sgB
  rw [Bool.or_eq_true, Bool.or_eq_true, Bool.or_eq_true, Bool.and_eq_true, decide_eq_true_iff, decide_eq_true_iff, decide_eq_true_iff, decide_eq_true_iff, decide_eq_true_iff]
/-- the bytes from z on -/
def rl (b : Nat → Nat) (z : Nat) : Nat → List Nat
  | 0 => []
  | L + 1 => rl b z L ++ [b (z + L)]
theorem rl_len {b : Nat → Nat} {z : Nat} : ∀ L, (rl b z L).length = L
  | 0 => rfl
  | L + 1 => by
    unfold rl
    rw [List.length_append, rl_len L]
    rfl
theorem rl_all {b : Nat → Nat} {z : Nat} {q : Nat → Bool} : ∀ L, (rl b z L).all q = true ↔ ∀ i, i < L → q (b (z + i)) = true
  | 0 => ⟨fun _ i hi => absurd hi (Nat.not_lt_zero i), fun _ => rfl⟩
  | L + 1 => by
    unfold rl
    rw [List.all_append, Bool.and_eq_true, rl_all L]
    constructor
    · rintro ⟨h1, h2⟩ i hi
      by_cases e : i = L
      · rw [e]
        have : ([b (z + L)].all q) = (q (b (z + L)) && true) := rfl
        rw [this, Bool.and_true] at h2
        exact h2
      · exact h1 i (by omega)
    · intro h
      refine ⟨fun i hi => h i (by omega), ?_⟩
      have : ([b (z + L)].all q) = (q (b (z + L)) && true) := rfl
      rw [this, Bool.and_true]
      exact h L (by omega)
theorem rl_s {b : Nat → Nat} {z : Nat} {q : Nat → Bool} {L : Nat} : (rl b z (L + 1)).all q = ((rl b z L).all q && q (b (z + L))) := by
  show (rl b z L ++ [b (z + L)]).all q = _
  rw [List.all_append]
  have : ([b (z + L)].all q) = (q (b (z + L)) && true) := rfl
  rw [this, Bool.and_true]
def n10 (l : List Nat) : Nat := l.foldl (fun x c => 10 * x + (c - 48)) 0
def numI (l : List Nat) : Int32 := l.foldl (fun x c => 10 * x + nI c - 48) 0
theorem n10_a {l : List Nat} {c : Nat} : n10 (l ++ [c]) = 10 * n10 l + (c - 48) := by
  unfold n10
  rw [List.foldl_append]
  rfl
theorem numI_a {l : List Nat} {c : Nat} : numI (l ++ [c]) = 10 * numI l + nI c - 48 := by
  unfold numI
  rw [List.foldl_append]
  rfl
theorem num_eq : ∀ l : List Nat, l.all dgB = true → numI l = nI (n10 l) := by
  refine snoc_ind (fun _ => rfl) (fun l c ih h => ?_)
  rw [List.all_append, Bool.and_eq_true] at h
  have h2 : dgB c = true := by
    have := h.2
    rw [show ([c].all dgB) = (dgB c && true) from rfl, Bool.and_true] at this
    exact this
  have h3 := dgB_t.mp h2
  rw [numI_a, n10_a, ih h.1, show (10 : Int32) = nI 10 from rfl, show (48 : Int32) = nI 48 from rfl, pk_mul, nI_add, pk_sub (by omega)]
  rw [show 10 * n10 l + c - 48 = 10 * n10 l + (c - 48) by omega]
theorem n10_lt : ∀ l : List Nat, l.all dgB = true → n10 l < 10 ^ l.length := by
  refine snoc_ind (fun _ => by decide) (fun l c ih h => ?_)
  rw [List.all_append, Bool.and_eq_true] at h
  have h2 : dgB c = true := by
    have := h.2
    rw [show ([c].all dgB) = (dgB c && true) from rfl, Bool.and_true] at this
    exact this
  have h3 := dgB_t.mp h2
  have := ih h.1
  rw [n10_a, List.length_append, List.length_singleton, Nat.pow_succ]
  omega
/-- the TOKEN at z, no blank: kind, place, the place behind it, value, letters -/
def tkn (b : Nat → Nat) (sz lim z : Nat) : Nat × Nat × Nat × Nat × List Nat :=
  if lim < sz ∧ lim ≤ z then (6, lim, z, 0, [])
  else if sz ≤ z then (0, z, z, 0, [])
  else if alB (b z) = true then
    (if (rl b z (rnf (fun i => alB (b i)) (sz - z) z)).all smB = true ∧ rnf (fun i => alB (b i)) (sz - z) z ≤ 7 then (2, z, z + rnf (fun i => alB (b i)) (sz - z) z, 0, rl b z (rnf (fun i => alB (b i)) (sz - z) z))
    else if (rl b z (rnf (fun i => alB (b i)) (sz - z) z)).all dgB = true ∧ rnf (fun i => alB (b i)) (sz - z) z ≤ 3 then (4, z, z + rnf (fun i => alB (b i)) (sz - z) z, n10 (rl b z (rnf (fun i => alB (b i)) (sz - z) z)), [])
    else (1, z, z + rnf (fun i => alB (b i)) (sz - z) z, 0, []))
  else if sgB (b z) = true then (5, z, z + 1, b z, [])
  else (1, z, z + 1, 0, [])
def bls (b : Nat → Nat) (sz p : Nat) : Nat := p + rnf (fun i => blB (b i)) (sz - p) p
def tok (b : Nat → Nat) (sz lim p : Nat) : Nat × Nat × Nat × Nat × List Nat := tkn b sz lim (bls b sz p)
/-- the kinds of the class and of the model -/
def kc (t : Nat × Nat × Nat × Nat × List Nat) : Int32 := if t.1 = 1 then 1 else if t.1 = 2 then (if wi t.2.2.2.2 < 24 then 2 else 3) else if t.1 = 4 then 4 else if t.1 = 5 then 5 else 0
def km (t : Nat × Nat × Nat × Nat × List Nat) : Int32 := if t.1 = 1 then 4 else if t.1 = 2 then 1 else if t.1 = 4 then 2 else if t.1 = 5 then 3 else if t.1 = 6 then 4 else 0
/-- the model's TOKEN at hand -/
def MT (v : nc_H) (t : Nat × Nat × Nat × Nat × List Nat) : Prop := v.1 12 0 11 = km t ∧ v.1 12 0 12 = nI t.2.1 ∧ v.1 12 0 4 = nI t.2.2.1 ∧ (t.1 = 2 → v.2 12 0 17 = enc8 t.2.2.2.2) ∧ (t.1 = 4 ∨ t.1 = 5 → v.1 12 0 14 = nI t.2.2.2.1)
def MS (v : nc_H) (b : Nat → Nat) (sz lim : Nat) : Prop := v.1 12 0 3 = nI sz ∧ v.1 12 0 5 = nI lim ∧ sz ≤ 940 ∧ (lim ≤ 900 ∧ v.1 12 0 15 = 0) ∧ ∀ k, k < 940 → b k < 256 ∧ v.1 869 0 k &&& 255 = nI (b k)
def mN (v v' : nc_H) : Prop := (∀ t a, ¬ (t = 12 ∧ a = 0) → v'.1 t a = v.1 t a ∧ v'.2 t a = v.2 t a) ∧ (∀ k, ¬ (k = 4 ∨ (11 ≤ k ∧ k ≤ 14)) → v'.1 12 0 k = v.1 12 0 k) ∧ (∀ k, k ≠ 17 → v'.2 12 0 k = v.2 12 0 k)
theorem mN.rf {v : nc_H} : mN v v := ⟨fun _ _ _ => ⟨rfl, rfl⟩, fun _ _ => rfl, fun _ _ => rfl⟩
theorem mN.tr {v v' v'' : nc_H} (h : mN v v') (h2 : mN v' v'') : mN v v'' := ⟨fun t a q => ⟨(h2.1 t a q).1.trans (h.1 t a q).1, (h2.1 t a q).2.trans (h.1 t a q).2⟩, fun k q => (h2.2.1 k q).trans (h.2.1 k q), fun k q => (h2.2.2 k q).trans (h.2.2 k q)⟩
theorem mN.si {v v' : nc_H} {k : Nat} {x : Int32} (h : mN v v') (hk : k = 4 ∨ (11 ≤ k ∧ k ≤ 14)) : mN v (nc_si v' 12 0 k x) := by
  refine ⟨fun t a q => ⟨?_, (h.1 t a q).2⟩, fun j q => ?_, h.2.2⟩
  · by_cases e : t = 12
    · rw [si_a (fun e2 => q ⟨e, e2⟩)]
      exact (h.1 t a q).1
    · rw [si_t e]
      exact (h.1 t a q).1
  · rw [si_k (fun e => q (by rw [e]; exact hk))]
    exact h.2.1 j q
theorem mN.sl {v v' : nc_H} {x : Int64} (h : mN v v') : mN v (nc_sl v' 12 0 17 x) := by
  refine ⟨fun t a q => ⟨(h.1 t a q).1, ?_⟩, h.2.1, fun j q => ?_⟩
  · by_cases e : t = 12
    · rw [sl_a (fun e2 => q ⟨e, e2⟩)]
      exact (h.1 t a q).2
    · rw [sl_t e]
      exact (h.1 t a q).2
  · rw [sl_k q]
    exact h.2.2 j q
variable {v v' : nc_H} {b : Nat → Nat} {sz lim p z : Nat}
theorem MS_mN (h : MS v b sz lim) (hm : mN v v') : MS v' b sz lim := by
  obtain ⟨h1, h2, h3, h4, h5⟩ := h
  refine ⟨(hm.2.1 3 (by omega)).trans h1, (hm.2.1 5 (by omega)).trans h2, h3, ⟨h4.1, (hm.2.1 15 (by omega)).trans h4.2⟩, fun k hk => ⟨(h5 k hk).1, ?_⟩⟩
  rw [(hm.1 869 0 (by omega)).1]
  exact (h5 k hk).2
def pkB (b : Nat → Nat) (sz p : Nat) : Int32 := if p < sz then nI (b p) else -1
theorem sm_peek (h : MS v b sz lim) (hp : v.1 12 0 4 = nI p) (hps : p ≤ sz) : nc_Call m_X12_peek [mO] v = some (some (.inl (pkB b sz p)), v) := by
  obtain ⟨h1, h2, h3, h4, h5⟩ := h
  rw [qc_X12_peek, h1, hp]
  unfold pkB
  by_cases q : p < sz
  · rw [if_neg (nI_ge q (by omega)), if_pos q, bd8 p 940 (by omega) (by decide), (h5 p (by omega)).2]
  · rw [if_pos (nI_le (by omega) (by omega)), if_neg q]
theorem nI_litlt {c n : Nat} (hc : c < 2 ^ 30) (hn : n < 2 ^ 30) : nI c < nI n ↔ c < n := by
  rw [← Int32.not_le, nI_le_iff (by omega) (by omega)]
  omega
theorem sm_small {c : Nat} (hc : c < 256) : nc_Call m_X12_isSmall [.inl (nI c)] v = some (some (.inl (bI (smB c))), v) := by
  rw [qc_X12_isSmall]
  have e1 : nI c < (97 : Int32) ↔ c < 97 := nI_litlt (c := c) (n := 97) (by omega) (by omega)
  have e2 : (122 : Int32) < nI c ↔ 122 < c := nI_litlt (c := 122) (n := c) (by omega) (by omega)
  by_cases q1 : c < 97
  · rw [if_pos (e1.mpr q1)]
    rw [show smB c = false from Bool.eq_false_iff.mpr (fun q => by have := smB_t.mp q; omega)]
    rfl
  · rw [if_neg (fun q => q1 (e1.mp q))]
    by_cases q2 : 122 < c
    · rw [if_pos (e2.mpr q2)]
      rw [show smB c = false from Bool.eq_false_iff.mpr (fun q => by have := smB_t.mp q; omega)]
      rfl
    · rw [if_neg (fun q => q2 (e2.mp q))]
      rw [show smB c = true from smB_t.mpr (by omega)]
      rfl
theorem sm_digit' {c : Nat} (hc : c < 256) : nc_Call m_X12_isDigit [.inl (nI c)] v = some (some (.inl (bI (dgB c))), v) := by
  rw [qc_X12_isDigit]
  have e1 : nI c < (48 : Int32) ↔ c < 48 := nI_litlt (c := c) (n := 48) (by omega) (by omega)
  have e2 : (57 : Int32) < nI c ↔ 57 < c := nI_litlt (c := 57) (n := c) (by omega) (by omega)
  by_cases q1 : c < 48
  · rw [if_pos (e1.mpr q1)]
    rw [show dgB c = false from Bool.eq_false_iff.mpr (fun q => by have := dgB_t.mp q; omega)]
    rfl
  · rw [if_neg (fun q => q1 (e1.mp q))]
    by_cases q2 : 57 < c
    · rw [if_pos (e2.mpr q2)]
      rw [show dgB c = false from Bool.eq_false_iff.mpr (fun q => by have := dgB_t.mp q; omega)]
      rfl
    · rw [if_neg (fun q => q2 (e2.mp q))]
      rw [show dgB c = true from dgB_t.mpr (by omega)]
      rfl
theorem sm_small_n : nc_Call m_X12_isSmall [.inl (-1)] v = some (some (.inl 0), v) := by
  rw [qc_X12_isSmall, if_pos (by decide)]
theorem sm_digit_n : nc_Call m_X12_isDigit [.inl (-1)] v = some (some (.inl 0), v) := by
  rw [qc_X12_isDigit, if_pos (by decide)]
theorem sm_blank : ∀ n p v, MS v b sz lim → v.1 12 0 4 = nI p → p + n ≤ sz → (∀ i, i < n → blB (b (p + i)) = true) → ∃ v', nc_Run m_X12_next 0 [some mO, none, none, none] [] v = nc_Run m_X12_next 0 [some mO, none, none, none] [] v' ∧ mN v v' ∧ v'.1 12 0 4 = nI (p + n) := by
  intro n
  induction n with
  | zero =>
    intro p v hM hp _ _
    exact ⟨v, rfl, mN.rf, hp⟩
  | succ n ih =>
    intro p v hM hp hn hb
    have h3 := hM.2.2.1
    have h0 := blB_t.mp (hb 0 (by omega))
    rw [Nat.add_zero] at h0
    have st : nc_Run m_X12_next 0 [some mO, none, none, none] [] v = nc_Run m_X12_next 0 [some mO, none, none, none] [] (nc_si v 12 0 4 (nI (p + 1))) := by
      have pe := sm_peek hM hp (by omega)
      rw [show pkB b sz p = nI (b p) from if_pos (by omega)] at pe
      rw [qr_X12_next_0]
      rcases h0 with e | e
      · rw [e] at pe
        rw [pe, nc_bI_v, if_pos (by decide), nc_lt_v, hp, nI_1]
      · rw [e] at pe
        rw [pe, nc_bI_v, if_neg (by decide), pe, nc_bI_v, if_neg (fun q => q (by decide)), nc_lt_v, hp, nI_1]
    have m1 : mN v (nc_si v 12 0 4 (nI (p + 1))) := mN.rf.si (Or.inl rfl)
    obtain ⟨v', a1, a2, a3⟩ := ih (p + 1) (nc_si v 12 0 4 (nI (p + 1))) (MS_mN hM m1) si_s (by omega) (fun i hi => by rw [show p + 1 + i = p + (i + 1) by omega]; exact hb (i + 1) (by omega))
    exact ⟨v', st.trans a1, m1.tr a2, by rw [a3, show p + 1 + n = p + (n + 1) by omega]⟩
/-- one byte of a run, taken -/
def avc (v : nc_H) (c : Int32) : nc_H :=
  nc_si (nc_si (if (3 : Int32) ≤ v.1 12 0 13 then (if (7 : Int32) ≤ v.1 12 0 13 then v else nc_sl v 12 0 17 (((v.2 12 0 17) <<< ((8 : Int32).toInt64 &&& 63)) ||| c.toInt64)) else nc_si (nc_sl v 12 0 17 (((v.2 12 0 17) <<< ((8 : Int32).toInt64 &&& 63)) ||| c.toInt64)) 12 0 14 (((10 * (v.1 12 0 14)) + c) - 48)) 12 0 13 (v.1 12 0 13 + 1)) 12 0 4 (v.1 12 0 4 + 1)
theorem avc_mN {c : Int32} : mN v (avc v c) := by
  unfold avc
  refine mN.si (mN.si ?_ (by omega)) (Or.inl rfl)
  split
  · split
    · exact mN.rf
    · exact mN.rf.sl
  · exact mN.rf.sl.si (by omega)
theorem c64 {c : Nat} (hc : c < 256) : (nI c).toInt64 = Int64.ofNat c := (by decide +kernel : ∀ c, c < 256 → (nI c).toInt64 = Int64.ofNat c) c hc
theorem avc_f {i : Nat} (h4 : v.1 12 0 4 = nI (z + i)) (h13 : v.1 12 0 13 = nI i) (hw : v.2 12 0 17 = enc8 (rl b z (min i 7))) (h14 : v.1 12 0 14 = numI (rl b z (min i 3))) (hc : b (z + i) < 256) (hi : i < 940) :
  (avc v (nI (b (z + i)))).1 12 0 4 = nI (z + (i + 1)) ∧ (avc v (nI (b (z + i)))).1 12 0 13 = nI (i + 1) ∧ (avc v (nI (b (z + i)))).2 12 0 17 = enc8 (rl b z (min (i + 1) 7)) ∧ (avc v (nI (b (z + i)))).1 12 0 14 = numI (rl b z (min (i + 1) 3)) ∧ (avc v (nI (b (z + i)))).1 12 0 12 = v.1 12 0 12 := by
  unfold avc
  rw [h4, h13, nI_1, nI_1]
  have e3 : (3 : Int32) ≤ nI i ↔ 3 ≤ i := nI_le_iff (a := 3) (by omega) (by omega)
  have e7 : (7 : Int32) ≤ nI i ↔ 7 ≤ i := nI_le_iff (a := 7) (by omega) (by omega)
  have s8 : ((8 : Int32).toInt64 &&& 63) = 8 := by decide
  have ew : i < 7 → enc8 (rl b z (i + 1)) = ((enc8 (rl b z i)) <<< ((8 : Int32).toInt64 &&& 63)) ||| (nI (b (z + i))).toInt64 := by
    intro _
    rw [s8, c64 hc]
    exact enc8_a _ _
  refine ⟨si_s, ?_, ?_, ?_, ?_⟩
  · rw [si_k (by decide), si_s]
  · rw [si_2, si_2]
    by_cases q3 : 3 ≤ i
    · rw [if_pos (e3.mpr q3)]
      by_cases q7 : 7 ≤ i
      · rw [if_pos (e7.mpr q7), hw, show min i 7 = 7 by omega, show min (i + 1) 7 = 7 by omega]
      · rw [if_neg (fun q => q7 (e7.mp q)), sl_s, hw, show min i 7 = i by omega, show min (i + 1) 7 = i + 1 by omega, ew (by omega)]
    · rw [if_neg (fun q => q3 (e3.mp q)), si_2, sl_s, hw, show min i 7 = i by omega, show min (i + 1) 7 = i + 1 by omega, ew (by omega)]
  · rw [si_k (by decide), si_k (by decide)]
    by_cases q3 : 3 ≤ i
    · rw [if_pos (e3.mpr q3)]
      rw [show min (i + 1) 3 = 3 by omega]
      rw [show min i 3 = 3 by omega] at h14
      split
      · exact h14
      · rw [sl_1]
        exact h14
    · rw [if_neg (fun q => q3 (e3.mp q)), si_s, h14, show min i 3 = i by omega, show min (i + 1) 3 = i + 1 by omega]
      exact numI_a.symm
  · rw [si_k (by decide), si_k (by decide)]
    split
    · split
      · rfl
      · rfl
    · rw [si_k (by decide)]
      rfl
theorem nr_220 {x : Int32} (h : MS v b sz lim) (hp : v.1 12 0 4 = nI p) (hps : p < sz) : nc_Run m_X12_next 220 [some mO, none, some (.inl x), none] [] v = nc_Run m_X12_next 181 [some mO, none, some (.inl x), some (.inl 0)] [] (avc v (nI (b p))) := by
  have pe : ∀ u, mN v u → u.1 12 0 4 = nI p → nc_Call m_X12_peek [mO] u = some (some (.inl (nI (b p))), u) := by
    intro u hu h4
    rw [sm_peek (MS_mN h hu) h4 (by omega), show pkB b sz p = nI (b p) from if_pos hps]
  rw [qr_X12_next_220]
  unfold avc
  by_cases q7 : (7 : Int32) ≤ v.1 12 0 13
  · have q3 : (3 : Int32) ≤ v.1 12 0 13 := Int32.le_trans (by decide) q7
    rw [if_pos q7, if_pos q3, nc_lt_v, nc_lt_v, if_pos q3, if_pos q7, si_k (by decide)]
  · rw [if_neg q7, pe v mN.rf hp, nc_bI_v, nc_lt_v, if_neg q7]
    by_cases q3 : (3 : Int32) ≤ v.1 12 0 13
    · rw [if_pos (show (3 : Int32) ≤ (nc_sl v 12 0 17 (v.2 12 0 17 <<< ((8 : Int32).toInt64 &&& 63) ||| (nI (b p)).toInt64)).1 12 0 13 from q3), if_pos q3, nc_lt_v, nc_lt_v, si_k (by decide), sl_1]
    · rw [if_neg (show ¬ (3 : Int32) ≤ (nc_sl v 12 0 17 (v.2 12 0 17 <<< ((8 : Int32).toInt64 &&& 63) ||| (nI (b p)).toInt64)).1 12 0 13 from q3), if_neg q3, pe _ mN.rf.sl hp, nc_bI_v, nc_lt_v, nc_lt_v, nc_lt_v, si_k (by decide), si_k (by decide), si_k (by decide), sl_1]
theorem nr_201 {s a : Bool} (h : MS v b sz lim) (hp : v.1 12 0 4 = nI p) (hps : p < sz) : nc_Run m_X12_next 201 [some mO, none, some (.inl (bI s)), some (.inl (bI a))] [] v = nc_Run m_X12_next 181 [some mO, none, some (.inl (bI s)), some (.inl (bI (a && (smB (b p) == s))))] [] (avc v (nI (b p))) := by
  have h3 := h.2.2.1
  have hb := (h.2.2.2.2 p (by omega)).1
  have pe : ∀ u, mN v u → u.1 12 0 4 = nI p → nc_Call m_X12_peek [mO] u = some (some (.inl (nI (b p))), u) := by
    intro u hu h4
    rw [sm_peek (MS_mN h hu) h4 (by omega), show pkB b sz p = nI (b p) from if_pos hps]
  rw [qr_X12_next_201]
  cases a with
  | false =>
    rw [if_pos (show bI false = 0 from rfl), nr_220 h hp hps]
    rfl
  | true =>
    rw [if_neg (by decide), pe v mN.rf hp, nc_bI_v, sm_small hb, nc_bI_v, Bool.true_and]
    by_cases e : smB (b p) = s
    · rw [if_neg (fun q => q (bI_in.mpr e)), show (smB (b p) == s) = true from beq_iff_eq.mpr e]
      unfold avc
      by_cases q7 : (7 : Int32) ≤ v.1 12 0 13
      · have q3 : (3 : Int32) ≤ v.1 12 0 13 := Int32.le_trans (by decide) q7
        rw [if_pos q7, if_pos q3, nc_lt_v, nc_lt_v, if_pos q3, if_pos q7, si_k (by decide)]
        rfl
      · rw [if_neg q7, pe v mN.rf hp, nc_bI_v, nc_lt_v, if_neg q7]
        by_cases q3 : (3 : Int32) ≤ v.1 12 0 13
        · rw [if_pos (show (3 : Int32) ≤ (nc_sl v 12 0 17 (v.2 12 0 17 <<< ((8 : Int32).toInt64 &&& 63) ||| (nI (b p)).toInt64)).1 12 0 13 from q3), if_pos q3, nc_lt_v, nc_lt_v, si_k (by decide), sl_1]
          rfl
        · rw [if_neg (show ¬ (3 : Int32) ≤ (nc_sl v 12 0 17 (v.2 12 0 17 <<< ((8 : Int32).toInt64 &&& 63) ||| (nI (b p)).toInt64)).1 12 0 13 from q3), if_neg q3, pe _ mN.rf.sl hp, nc_bI_v, nc_lt_v, nc_lt_v, nc_lt_v, si_k (by decide), si_k (by decide), si_k (by decide), sl_1]
          rfl
    · rw [if_pos (fun q => e (bI_in.mp q)), nr_220 h hp hps, show (smB (b p) == s) = false from Bool.eq_false_iff.mpr (fun q => e (beq_iff_eq.mp q))]
      rfl
/-- the kind of a run -/
def kr (s a : Bool) (L : Nat) : Int32 := if a = false then 4 else if s = false then (if L ≤ 3 then 2 else 4) else (if L ≤ 7 then 1 else 4)
theorem sm_run {s : Bool} {L : Nat} (hL : z + L ≤ sz) (hin : ∀ i, i < L → alB (b (z + i)) = true) (hout : z + L < sz → alB (b (z + L)) = false) : ∀ n i v, i + n = L → MS v b sz lim → v.1 12 0 4 = nI (z + i) → v.1 12 0 13 = nI i → v.2 12 0 17 = enc8 (rl b z (min i 7)) → v.1 12 0 14 = numI (rl b z (min i 3)) → ∃ v', nc_Run m_X12_next 181 [some mO, none, some (.inl (bI s)), some (.inl (bI ((rl b z i).all (fun c => smB c == s))))] [] v = some (none, v') ∧ mN v v' ∧ v'.1 12 0 4 = nI (z + L) ∧ v'.1 12 0 12 = v.1 12 0 12 ∧ v'.1 12 0 11 = kr s ((rl b z L).all (fun c => smB c == s)) L ∧ v'.2 12 0 17 = enc8 (rl b z (min L 7)) ∧ v'.1 12 0 14 = numI (rl b z (min L 3)) := by
  intro n
  induction n with
  | zero =>
    intro i v hi hM h4 h13 hw h14
    have e : i = L := by omega
    subst e
    have h3 := hM.2.2.1
    have fin : nc_Run m_X12_next 181 [some mO, none, some (.inl (bI s)), some (.inl (bI ((rl b z i).all (fun c => smB c == s))))] [] v = some (none, nc_si v 12 0 11 (kr s ((rl b z i).all (fun c => smB c == s)) i)) := by
      have e3 : nI i ≤ (3 : Int32) ↔ i ≤ 3 := nI_le_iff (b := 3) (by omega) (by omega)
      have e7 : nI i ≤ (7 : Int32) ↔ i ≤ 7 := nI_le_iff (b := 7) (by omega) (by omega)
      have body : ∀ a : Bool, (if bI a = 0 then nc_lt (nc_si v 12 0 11 4) fun w9 => some (none, w9)
        else
        if bI s = 0 then
          if (v.1 12 0 13) ≤ 3 then
            if bI s = 0 then
              nc_lt (nc_si v 12 0 11 2) fun w10 =>
              some (none, w10)
            else
              nc_lt (nc_si v 12 0 11 1) fun w11 =>
              some (none, w11)
          else
            nc_lt (nc_si v 12 0 11 4) fun w12 =>
            some (none, w12)
        else
          if (v.1 12 0 13) ≤ 7 then
            if bI s = 0 then
              nc_lt (nc_si v 12 0 11 2) fun w13 =>
              some (none, w13)
            else
              nc_lt (nc_si v 12 0 11 1) fun w14 =>
              some (none, w14)
          else
            nc_lt (nc_si v 12 0 11 4) fun w15 =>
            (some (none, w15) : Option nc_R)) = some (none, nc_si v 12 0 11 (kr s a i)) := by
        intro a
        cases a with
        | false =>
          rw [if_pos (show bI false = 0 from rfl), nc_lt_v]
          rfl
        | true =>
          rw [if_neg (show ¬ bI true = 0 by decide), h13]
          cases s with
          | false =>
            rw [if_pos (show bI false = 0 from rfl)]
            by_cases q : i ≤ 3
            · rw [if_pos (e3.mpr q), if_pos (show bI false = 0 from rfl), nc_lt_v, show kr false true i = 2 from if_pos q]
            · rw [if_neg (fun z => q (e3.mp z)), nc_lt_v, show kr false true i = 4 from if_neg q]
          | true =>
            rw [if_neg (show ¬ bI true = 0 by decide)]
            by_cases q : i ≤ 7
            · rw [if_pos (e7.mpr q), if_neg (show ¬ bI true = 0 by decide), nc_lt_v, show kr true true i = 1 from if_pos q]
            · rw [if_neg (fun z => q (e7.mp z)), nc_lt_v, show kr true true i = 4 from if_neg q]
      rw [qr_X12_next_181, sm_peek hM h4 hL, nc_bI_v]
      unfold pkB
      by_cases q : z + i < sz
      · have hb := (hM.2.2.2.2 (z + i) (by omega)).1
        have ho := hout q
        unfold alB at ho
        rw [Bool.or_eq_false_iff] at ho
        rw [if_pos q, sm_small hb, nc_bI_v, ho.1, if_neg (fun z => z rfl), sm_peek hM h4 hL, nc_bI_v]
        unfold pkB
        rw [if_pos q, sm_digit' hb, nc_bI_v, ho.2, if_pos (show bI false = 0 from rfl)]
        exact body _
      · rw [if_neg q, sm_small_n, nc_bI_v, if_neg (fun z => z rfl), sm_peek hM h4 hL, nc_bI_v]
        unfold pkB
        rw [if_neg q, sm_digit_n, nc_bI_v, if_pos rfl]
        exact body _
    refine ⟨_, fin, mN.rf.si (by omega), ?_, ?_, si_s, hw, ?_⟩
    · rw [si_k (by decide)]; exact h4
    · rw [si_k (by decide)]
    · rw [si_k (by decide)]; exact h14
  | succ n ih =>
    intro i v hi hM h4 h13 hw h14
    have h3 := hM.2.2.1
    have hb := (hM.2.2.2.2 (z + i) (by omega)).1
    have st : nc_Run m_X12_next 181 [some mO, none, some (.inl (bI s)), some (.inl (bI ((rl b z i).all (fun c => smB c == s))))] [] v = nc_Run m_X12_next 181 [some mO, none, some (.inl (bI s)), some (.inl (bI ((rl b z (i + 1)).all (fun c => smB c == s))))] [] (avc v (nI (b (z + i)))) := by
      rw [rl_s, ← nr_201 (lim := lim) hM h4 (by omega), qr_X12_next_181, sm_peek hM h4 (by omega), nc_bI_v]
      unfold pkB
      rw [if_pos (by omega), sm_small hb, nc_bI_v]
      rcases alB_t.mp (hin i (by omega)) with q | q
      · rw [q, if_pos (by decide)]
      · by_cases q2 : smB (b (z + i)) = true
        · rw [q2, if_pos (by decide)]
        · rw [Bool.eq_false_iff.mpr q2, if_neg (fun z => z rfl), sm_peek hM h4 (by omega), nc_bI_v]
          unfold pkB
          rw [if_pos (by omega), sm_digit' hb, nc_bI_v, q, if_neg (by decide)]
    obtain ⟨f1, f2, f3, f4, f5⟩ := avc_f h4 h13 hw h14 hb (by omega)
    obtain ⟨v', a1, a2, a3, a4, a5⟩ := ih (i + 1) _ (by omega) (MS_mN hM avc_mN) f1 f2 f3 f4
    exact ⟨v', st.trans a1, avc_mN.tr a2, a3, a4.trans f5, a5⟩
/-- the shapes of the pure TOKEN -/
abbrev rln (b : Nat → Nat) (sz z : Nat) : Nat := rnf (fun i => alB (b i)) (sz - z) z
theorem tkn_6 (h1 : lim < sz) (h2 : lim ≤ z) : tkn b sz lim z = (6, lim, z, 0, []) := if_pos ⟨h1, h2⟩
theorem tkn_0 (h1 : ¬ (lim < sz ∧ lim ≤ z)) (h2 : sz ≤ z) : tkn b sz lim z = (0, z, z, 0, []) := (if_neg h1).trans (if_pos h2)
theorem tkn_2 (h1 : ¬ (lim < sz ∧ lim ≤ z)) (h2 : z < sz) (h3 : alB (b z) = true) (h4 : (rl b z (rln b sz z)).all smB = true) (h5 : rln b sz z ≤ 7) : tkn b sz lim z = (2, z, z + rln b sz z, 0, rl b z (rln b sz z)) := (if_neg h1).trans ((if_neg (by omega)).trans ((if_pos h3).trans (if_pos ⟨h4, h5⟩)))
theorem tkn_4 (h1 : ¬ (lim < sz ∧ lim ≤ z)) (h2 : z < sz) (h3 : alB (b z) = true) (h4 : ¬ ((rl b z (rln b sz z)).all smB = true ∧ rln b sz z ≤ 7)) (h5 : (rl b z (rln b sz z)).all dgB = true) (h6 : rln b sz z ≤ 3) : tkn b sz lim z = (4, z, z + rln b sz z, n10 (rl b z (rln b sz z)), []) := (if_neg h1).trans ((if_neg (by omega)).trans ((if_pos h3).trans ((if_neg h4).trans (if_pos ⟨h5, h6⟩))))
theorem tkn_1 (h1 : ¬ (lim < sz ∧ lim ≤ z)) (h2 : z < sz) (h3 : alB (b z) = true) (h4 : ¬ ((rl b z (rln b sz z)).all smB = true ∧ rln b sz z ≤ 7)) (h5 : ¬ ((rl b z (rln b sz z)).all dgB = true ∧ rln b sz z ≤ 3)) : tkn b sz lim z = (1, z, z + rln b sz z, 0, []) := (if_neg h1).trans ((if_neg (by omega)).trans ((if_pos h3).trans ((if_neg h4).trans (if_neg h5))))
theorem tkn_5 (h1 : ¬ (lim < sz ∧ lim ≤ z)) (h2 : z < sz) (h3 : alB (b z) = false) (h4 : sgB (b z) = true) : tkn b sz lim z = (5, z, z + 1, b z, []) := (if_neg h1).trans ((if_neg (by omega)).trans ((if_neg (Bool.eq_false_iff.mp h3)).trans (if_pos h4)))
theorem tkn_n (h1 : ¬ (lim < sz ∧ lim ≤ z)) (h2 : z < sz) (h3 : alB (b z) = false) (h4 : sgB (b z) = false) : tkn b sz lim z = (1, z, z + 1, 0, []) := (if_neg h1).trans ((if_neg (by omega)).trans ((if_neg (Bool.eq_false_iff.mp h3)).trans (if_neg (Bool.eq_false_iff.mp h4))))
theorem all_sm {l : List Nat} (h : l.all smB = true) : ltr l := fun c hc => smB_t.mp (List.all_eq_true.mp h c hc)
/-- the run at z -/
theorem rln_spec (hz : z < sz) (h : alB (b z) = true) : z + rln b sz z ≤ sz ∧ 1 ≤ rln b sz z ∧ (∀ i, i < rln b sz z → alB (b (z + i)) = true) ∧ (z + rln b sz z < sz → alB (b (z + rln b sz z)) = false) := by
  have h1 := rnf_le (q := fun i => alB (b i)) (sz - z) z
  have h3 := rnf_out (q := fun i => alB (b i)) (sz - z) z
  refine ⟨by show z + rnf _ _ _ ≤ sz; omega, ?_, fun i hi => rnf_in (q := fun i => alB (b i)) (sz - z) z i hi, fun q => h3 (by have : z + rnf (fun i => alB (b i)) (sz - z) z < sz := q; omega)⟩
  by_cases e : 1 ≤ rln b sz z
  · exact e
  · have e0 : rnf (fun i => alB (b i)) (sz - z) z = 0 := by
      have : ¬ 1 ≤ rnf (fun i => alB (b i)) (sz - z) z := e
      omega
    have := h3 (by omega)
    rw [e0, Nat.add_zero] at this
    exact absurd h (Bool.eq_false_iff.mp this)
/-- what a run is, by its first byte -/
theorem run_kd (hz : z < sz) (h : alB (b z) = true) : ((rl b z (rln b sz z)).all (fun c => smB c == smB (b z)) = true ↔ ((rl b z (rln b sz z)).all smB = true ∨ (rl b z (rln b sz z)).all dgB = true)) ∧ (smB (b z) = true → ¬ (rl b z (rln b sz z)).all dgB = true ∧ ((rl b z (rln b sz z)).all smB = (rl b z (rln b sz z)).all (fun c => smB c == smB (b z)))) ∧ (smB (b z) = false → ¬ (rl b z (rln b sz z)).all smB = true ∧ ((rl b z (rln b sz z)).all dgB = (rl b z (rln b sz z)).all (fun c => smB c == smB (b z)))) := by
  obtain ⟨h1, h2, h3, h4⟩ := rln_spec hz h
  have nd : ∀ c, smB c = true → dgB c = true → False := by
    intro c q1 q2
    have := smB_t.mp q1
    have := dgB_t.mp q2
    omega
  have A : smB (b z) = true → ¬ (rl b z (rln b sz z)).all dgB = true ∧ ((rl b z (rln b sz z)).all smB = (rl b z (rln b sz z)).all (fun c => smB c == smB (b z))) := by
    intro e
    refine ⟨fun q => nd _ e ((rl_all _).mp q 0 (by omega)), ?_⟩
    rw [e]
    congr 1
    funext c
    cases smB c <;> rfl
  have B : smB (b z) = false → ¬ (rl b z (rln b sz z)).all smB = true ∧ ((rl b z (rln b sz z)).all dgB = (rl b z (rln b sz z)).all (fun c => smB c == smB (b z))) := by
    intro e
    refine ⟨fun q => absurd ((rl_all _).mp q 0 (by omega)) (Bool.eq_false_iff.mp e), Bool.eq_iff_iff.mpr ?_⟩
    rw [rl_all, rl_all, e]
    constructor
    · intro q i hi
      refine beq_iff_eq.mpr (Bool.eq_false_iff.mpr (fun z => nd _ z (q i hi)))
    · intro q i hi
      rcases alB_t.mp (h3 i hi) with r | r
      · exact absurd r (Bool.eq_false_iff.mp (beq_iff_eq.mp (q i hi)))
      · exact r
  refine ⟨?_, A, B⟩
  by_cases e : smB (b z) = true
  · rw [← (A e).2]
    exact ⟨Or.inl, fun q => q.elim id (fun q => absurd q (A e).1)⟩
  · have e' := Bool.eq_false_iff.mpr e
    rw [← (B e').2]
    exact ⟨Or.inr, fun q => q.elim (fun q => absurd q (B e').1) id⟩
end TK
