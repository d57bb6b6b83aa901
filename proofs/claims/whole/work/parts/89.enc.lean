/-! WORDS, packed. -/
section EN
def n5 (l : List Nat) : Nat := l.foldl (fun x b => x * 32 + b % 32) 0
def n8 (l : List Nat) : Nat := l.foldl (fun x b => x * 256 + b) 0
theorem n5_a (l : List Nat) (b : Nat) : n5 (l ++ [b]) = n5 l * 32 + b % 32 := by
  unfold n5
  rw [List.foldl_append]
  rfl
theorem n8_a (l : List Nat) (b : Nat) : n8 (l ++ [b]) = n8 l * 256 + b := by
  unfold n8
  rw [List.foldl_append]
  rfl
theorem enc5_a (l : List Nat) (b : Nat) : enc5 (l ++ [b]) = (enc5 l <<< 5) ||| Int64.ofNat (b % 32) := by
  unfold enc5
  rw [List.foldl_append]
  rfl
theorem enc8_a (l : List Nat) (b : Nat) : enc8 (l ++ [b]) = (enc8 l <<< 8) ||| Int64.ofNat b := by
  unfold enc8
  rw [List.foldl_append]
  rfl
/-- a row of small letters -/
def ltr (l : List Nat) : Prop := ∀ b, b ∈ l → 97 ≤ b ∧ b ≤ 122
theorem ltr_a {l : List Nat} {b : Nat} : ltr (l ++ [b]) ↔ ltr l ∧ (97 ≤ b ∧ b ≤ 122) := by
  unfold ltr
  constructor
  · intro h
    exact ⟨fun c hc => h c (List.mem_append_left _ hc), h b (List.mem_append_right _ (List.mem_singleton.mpr rfl))⟩
  · rintro ⟨h1, h2⟩ c hc
    rcases List.mem_append.mp hc with q | q
    · exact h1 c q
    · rw [List.mem_singleton.mp q]
      exact h2
theorem snoc_ind {P : List Nat → Prop} (h0 : P []) (hs : ∀ l b, P l → P (l ++ [b])) : ∀ l, P l := by
  intro l
  have : ∀ n (l : List Nat), l.length = n → P l := by
    intro n
    induction n with
    | zero =>
      intro l hl
      rw [List.eq_nil_of_length_eq_zero hl]
      exact h0
    | succ n ih =>
      intro l hl
      have hne : l ≠ [] := by
        intro e
        rw [e] at hl
        simp at hl
      rw [← List.dropLast_concat_getLast hne]
      exact hs _ _ (ih _ (by rw [List.length_dropLast]; omega))
  exact this _ l rfl
theorem n5_lt : ∀ l : List Nat, n5 l < 32 ^ l.length := by
  refine snoc_ind (by decide) (fun l b ih => ?_)
  rw [n5_a, List.length_append, List.length_singleton, Nat.pow_succ]
  have := Nat.mod_lt b (show 32 > 0 by decide)
  omega
theorem n8_lt : ∀ l : List Nat, ltr l → n8 l < 256 ^ l.length := by
  refine snoc_ind (fun _ => by decide) (fun l b ih h => ?_)
  have h2 := ltr_a.mp h
  have := ih h2.1
  rw [n8_a, List.length_append, List.length_singleton, Nat.pow_succ]
  omega
theorem p57 {n : Nat} (h : n ≤ 7) : 32 ^ n ≤ 2 ^ 35 ∧ 256 ^ n ≤ 2 ^ 56 := by
  have h1 : 32 ^ n ≤ 32 ^ 7 := Nat.pow_le_pow_right (by decide) h
  have h2 : 256 ^ n ≤ 256 ^ 7 := Nat.pow_le_pow_right (by decide) h
  exact ⟨Nat.le_trans h1 (by decide), Nat.le_trans h2 (by decide)⟩
theorem tn64 {n : Nat} (h : n < 2 ^ 64) : (Int64.ofNat n).toBitVec.toNat = n := Nat.mod_eq_of_lt h
theorem i64_inj {x y : Nat} (hx : x < 2 ^ 64) (hy : y < 2 ^ 64) : Int64.ofNat x = Int64.ofNat y ↔ x = y := by
  constructor
  · intro e
    have := congrArg (fun z : Int64 => z.toBitVec.toNat) e
    simp only [tn64 hx, tn64 hy] at this
    exact this
  · intro e
    rw [e]
theorem sh5 {x m : Nat} (hx : x < 2 ^ 55) (hm : m < 32) : (Int64.ofNat x <<< 5) ||| Int64.ofNat m = Int64.ofNat (x * 32 + m) := by
  refine Int64.toBitVec_inj.mp (BitVec.eq_of_toNat_eq ?_)
  have e : (Int64.ofNat x <<< 5).toBitVec = (Int64.ofNat x).toBitVec <<< 5 := by
    rw [Int64.toBitVec_shiftLeft]
    rfl
  rw [Int64.toBitVec_or, BitVec.toNat_or, e, BitVec.toNat_shiftLeft, tn64 (by omega), tn64 (by omega), tn64 (by omega), Nat.shiftLeft_eq, Nat.mod_eq_of_lt (by omega)]
  have := Nat.two_pow_add_eq_or_of_lt (i := 5) (b := m) hm x
  rw [Nat.mul_comm x, ← this]
theorem sh8l {x m : Nat} (hx : x < 2 ^ 55) (hm : m < 256) : (Int64.ofNat x <<< 8) ||| Int64.ofNat m = Int64.ofNat (x * 256 + m) := by
  refine Int64.toBitVec_inj.mp (BitVec.eq_of_toNat_eq ?_)
  have e : (Int64.ofNat x <<< 8).toBitVec = (Int64.ofNat x).toBitVec <<< 8 := by
    rw [Int64.toBitVec_shiftLeft]
    rfl
  rw [Int64.toBitVec_or, BitVec.toNat_or, e, BitVec.toNat_shiftLeft, tn64 (by omega), tn64 (by omega), tn64 (by omega), Nat.shiftLeft_eq, Nat.mod_eq_of_lt (by omega)]
  have := Nat.two_pow_add_eq_or_of_lt (i := 8) (b := m) hm x
  rw [Nat.mul_comm x, ← this]
theorem enc5_n : ∀ l : List Nat, l.length ≤ 7 → enc5 l = Int64.ofNat (n5 l) := by
  refine snoc_ind (fun _ => rfl) (fun l b ih h => ?_)
  rw [List.length_append, List.length_singleton] at h
  have := n5_lt l
  have p := (p57 (show l.length ≤ 7 by omega)).1
  rw [enc5_a, ih (by omega), n5_a, sh5 (by omega) (Nat.mod_lt b (by decide))]
theorem enc8_n : ∀ l : List Nat, l.length ≤ 7 → ltr l → enc8 l = Int64.ofNat (n8 l) := by
  refine snoc_ind (fun _ _ => rfl) (fun l b ih h hl => ?_)
  rw [List.length_append, List.length_singleton] at h
  have h2 := ltr_a.mp hl
  have := n8_lt l h2.1
  have p : 256 ^ l.length ≤ 2 ^ 48 := Nat.le_trans (Nat.pow_le_pow_right (by decide) (show l.length ≤ 6 by omega)) (by decide)
  rw [enc8_a, ih (by omega) h2.1, n8_a, sh8l (by omega) (by omega)]
theorem n5_inj : ∀ l m : List Nat, ltr l → ltr m → n5 l = n5 m → l = m := by
  refine snoc_ind (fun m => ?_) (fun l b ih m => ?_)
  · refine snoc_ind (P := fun m => ltr [] → ltr m → n5 [] = n5 m → [] = m) (fun _ _ _ => rfl) (fun m c _ _ hm e => ?_) m
    have h2 := (ltr_a.mp hm).2
    rw [n5_a] at e
    have : n5 [] = 0 := rfl
    omega
  · refine snoc_ind (P := fun m => ltr (l ++ [b]) → ltr m → n5 (l ++ [b]) = n5 m → l ++ [b] = m) (fun hl _ e => ?_) (fun m c _ hl hm e => ?_) m
    · have h2 := (ltr_a.mp hl).2
      rw [n5_a] at e
      have : n5 [] = 0 := rfl
      omega
    · have h1 := ltr_a.mp hl
      have h2 := ltr_a.mp hm
      rw [n5_a, n5_a] at e
      have e1 : n5 l = n5 m := by omega
      have e2 : b = c := by omega
      rw [ih m h1.1 h2.1 e1, e2]
theorem n8_inj : ∀ l m : List Nat, ltr l → ltr m → n8 l = n8 m → l = m := by
  refine snoc_ind (fun m => ?_) (fun l b ih m => ?_)
  · refine snoc_ind (P := fun m => ltr [] → ltr m → n8 [] = n8 m → [] = m) (fun _ _ _ => rfl) (fun m c _ _ hm e => ?_) m
    have h2 := (ltr_a.mp hm).2
    rw [n8_a] at e
    have : n8 [] = 0 := rfl
    omega
  · refine snoc_ind (P := fun m => ltr (l ++ [b]) → ltr m → n8 (l ++ [b]) = n8 m → l ++ [b] = m) (fun hl _ e => ?_) (fun m c _ hl hm e => ?_) m
    · have h2 := (ltr_a.mp hl).2
      rw [n8_a] at e
      have : n8 [] = 0 := rfl
      omega
    · have h1 := ltr_a.mp hl
      have h2 := ltr_a.mp hm
      rw [n8_a, n8_a] at e
      have e1 : n8 l = n8 m := by omega
      have e2 : b = c := by omega
      rw [ih m h1.1 h2.1 e1, e2]
/-- a word's letters -/
def wl (l : List Nat) : Prop := l.length ≤ 7 ∧ ltr l
theorem enc5_inj {l m : List Nat} (hl : wl l) (hm : wl m) : enc5 l = enc5 m ↔ l = m := by
  have a := n5_lt l
  have b := n5_lt m
  have p := (p57 hl.1).1
  have q := (p57 hm.1).1
  rw [enc5_n l hl.1, enc5_n m hm.1, i64_inj (by omega) (by omega)]
  exact ⟨n5_inj l m hl.2 hm.2, fun e => by rw [e]⟩
theorem enc8_inj {l m : List Nat} (hl : wl l) (hm : wl m) : enc8 l = enc8 m ↔ l = m := by
  have a := n8_lt l hl.2
  have b := n8_lt m hm.2
  have p := (p57 hl.1).2
  have q := (p57 hm.1).2
  rw [enc8_n l hl.1 hl.2, enc8_n m hm.1 hm.2, i64_inj (by omega) (by omega)]
  exact ⟨n8_inj l m hl.2 hm.2, fun e => by rw [e]⟩
theorem enc5_0 {l : List Nat} (hl : wl l) (h1 : l ≠ []) : enc5 l ≠ 0 := fun e => h1 ((enc5_inj (m := []) hl ⟨by decide, fun _ h => by cases h⟩).mp e)
theorem wrd_wl : ∀ k, k < 24 → (wrd k).length ≤ 7 ∧ ∀ b, b ∈ wrd k → 97 ≤ b ∧ b ≤ 122 := by decide +kernel
theorem wrd_ne : ∀ k, k < 24 → wrd k ≠ [] := by decide +kernel
theorem wrd_inj : ∀ j, j < 24 → ∀ k, k < 24 → wrd j = wrd k → j = k := by decide +kernel
/-- the number of a told word; 24: a name -/
def wi (l : List Nat) : Nat := ((List.range 24).find? (fun k => wrd k == l)).getD 24
theorem wi_lt {l : List Nat} {k : Nat} (hk : k < 24) : wi l = k ↔ wrd k = l := by
  unfold wi
  constructor
  · intro e
    cases h : (List.range 24).find? (fun k => wrd k == l) with
    | none =>
      rw [h] at e
      simp at e
      omega
    | some j =>
      rw [h] at e
      have e' : j = k := e
      have := List.find?_some h
      rw [← e']
      exact beq_iff_eq.mp this
  · intro e
    cases h : (List.range 24).find? (fun k => wrd k == l) with
    | none =>
      have := List.find?_eq_none.mp h k (List.mem_range.mpr hk)
      exact absurd (beq_iff_eq.mpr e) this
    | some j =>
      have h1 := List.find?_some h
      have h2 := List.mem_range.mp (List.mem_of_find?_eq_some h)
      show j = k
      exact wrd_inj j h2 k hk ((beq_iff_eq.mp h1).trans e.symm)
theorem wi_le {l : List Nat} : wi l ≤ 24 := by
  unfold wi
  cases h : (List.range 24).find? (fun k => wrd k == l) with
  | none => exact Nat.le_refl 24
  | some j =>
    have h2 := List.mem_range.mp (List.mem_of_find?_eq_some h)
    show j ≤ 24
    omega
theorem wi_24 {l : List Nat} : wi l = 24 ↔ ∀ k, k < 24 → wrd k ≠ l := by
  constructor
  · intro e k hk q
    have := (wi_lt hk).mpr q
    omega
  · intro h
    have := wi_le (l := l)
    by_cases q : wi l = 24
    · exact q
    · exact absurd ((wi_lt (l := l) (k := wi l) (by omega)).mp rfl) (h _ (by omega))
theorem lg0 {x y : Int64} : lg_cmp x y = 0 ↔ x = y := by
  unfold lg_cmp
  by_cases q : x > y
  · rw [if_pos q]
    refine ⟨fun z => absurd z (by decide), fun z => ?_⟩
    rw [z] at q
    exact absurd q (Int64.lt_irrefl)
  · rw [if_neg q]
    by_cases r : x = y
    · rw [if_pos r]
      exact ⟨fun _ => r, fun _ => rfl⟩
    · rw [if_neg r]
      exact ⟨fun z => absurd z (by decide), fun z => absurd z r⟩
variable {w : nc_H} {l : List Nat}
/-- the class finds a told word -/
theorem sa_toldWord (hT : TW w) (hl : wl l) : nc_Call m_X10_toldWord [tO, .inr (.inl (enc5 l))] w = some (some (.inl (if wi l < 24 then nI (wi l) else -1)), w) := by
  rw [qc_X10_toldWord]
  have key : ∀ k i, i + k = 24 → (∀ j, j < i → wrd j ≠ l) → nc_Run m_X10_toldWord 2 [some tO, some (.inr (.inl (enc5 l))), none, some (.inl (nI i))] [] w = some (some (.inl (if wi l < 24 then nI (wi l) else -1)), w) := by
    intro k
    induction k with
    | zero =>
      intro i hi hno
      have e : i = 24 := by omega
      subst e
      rw [qr_X10_toldWord_2, if_pos (by decide +kernel), if_neg (by rw [wi_24.mpr hno]; omega)]
    | succ k ih =>
      intro i hi hno
      rw [qr_X10_toldWord_2, if_neg (show ¬ (24 : Int32) ≤ nI i from nI_ge (b := 24) (by omega) (by decide)), bd8 i 24 (by omega) (by decide), hT.1 i (by omega)]
      by_cases q : wrd i = l
      · rw [if_neg (fun z => z (lg0.mpr ((enc5_inj (wrd_wl i (by omega)) hl).mpr q))), if_pos (by rw [(wi_lt (k := i) (by omega)).mpr q]; omega), (wi_lt (k := i) (by omega)).mpr q]
      · rw [if_pos (fun z => q ((enc5_inj (wrd_wl i (by omega)) hl).mp (lg0.mp z))), nc_li_v, nI_1]
        refine ih (i + 1) (by omega) (fun j hj => ?_)
        by_cases e : j = i
        · rw [e]; exact q
        · exact hno j (by omega)
  exact key 24 0 (by omega) (fun j hj => absurd hj (Nat.not_lt_zero j))
theorem prm_lt : ∀ k, k < 24 → prm k < 24 := by decide +kernel
theorem prm_su : ∀ j, j < 24 → ∃ k, k < 24 ∧ prm k = j := by decide +kernel
/-- the model: is it a name -/
theorem sm_isName (hT : TW w) (h11 : w.1 12 0 11 = 1) (hw : w.2 12 0 17 = enc8 l) (hl : wl l) : nc_Call m_X12_isName [mO] w = some (some (.inl (tI (wi l = 24))), w) := by
  rw [qc_X12_isName, h11, if_neg (fun q => q rfl)]
  have key : ∀ k i (x : Int32), i + k = 24 → (x = 0 ∨ x = 1) → (x = 1 ↔ ∀ j, j < i → wrd (prm j) ≠ l) → nc_Run m_X12_isName 16 [some mO, some (.inl x), some (.inl (nI i))] [] w = some (some (.inl (tI (wi l = 24))), w) := by
    intro k
    induction k with
    | zero =>
      intro i x hi hx hno
      have e : i = 24 := by omega
      subst e
      rw [qr_X12_isName_16, if_pos (by decide +kernel), nc_z_of hx]
      have : x = 1 ↔ wi l = 24 := by
        rw [hno, wi_24]
        constructor
        · intro h j hj
          obtain ⟨k, k1, k2⟩ := prm_su j hj
          rw [← k2]
          exact h k k1
        · intro h j hj
          exact h (prm j) (prm_lt j hj)
      rcases hx with rfl | rfl
      · rw [tI_f (fun q => absurd (this.mpr q) (by decide))]
      · rw [tI_t (this.mp rfl)]
    | succ k ih =>
      intro i x hi hx hno
      rw [qr_X12_isName_16, if_neg (show ¬ (24 : Int32) ≤ nI i from nI_ge (b := 24) (by omega) (by decide))]
      rcases hx with rfl | rfl
      · rw [if_pos rfl, nc_li_v, nI_1]
        refine ih (i + 1) 0 (by omega) (Or.inl rfl) ⟨fun z => absurd z (by decide), fun h => hno.mpr (fun j hj => h j (by omega))⟩
      · rw [if_neg (by decide), bd8 i 24 (by omega) (by decide), hw, hT.2 i (by omega)]
        have wv := wrd_wl (prm i) (prm_lt i (by omega))
        by_cases q : wrd (prm i) = l
        · rw [if_pos (lg0.mpr ((enc8_inj hl wv).mpr q.symm)), nc_li_v, nI_1]
          exact ih (i + 1) 0 (by omega) (Or.inl rfl) ⟨fun z => absurd z (by decide), fun h => absurd q (h i (by omega))⟩
        · rw [if_neg (fun z => q ((enc8_inj hl wv).mp (lg0.mp z)).symm), nc_li_v, nI_1]
          refine ih (i + 1) 1 (by omega) (Or.inr rfl) ⟨fun _ j hj => ?_, fun _ => rfl⟩
          by_cases e : j = i
          · rw [e]; exact q
          · exact hno.mp rfl j (by omega)
  exact key 24 0 1 (by omega) (Or.inr rfl) ⟨fun _ j hj => absurd hj (Nat.not_lt_zero j), fun _ => rfl⟩
theorem sm_isName_f (h11 : w.1 12 0 11 ≠ 1) : nc_Call m_X12_isName [mO] w = some (some (.inl 0), w) := by
  rw [qc_X12_isName, if_pos h11]
  have key : ∀ k i, i + k = 24 → nc_Run m_X12_isName 16 [some mO, some (.inl 0), some (.inl (nI i))] [] w = some (some (.inl 0), w) := by
    intro k
    induction k with
    | zero =>
      intro i hi
      have e : i = 24 := by omega
      subst e
      rw [qr_X12_isName_16, if_pos (by decide +kernel), nc_z_0]
    | succ k ih =>
      intro i hi
      rw [qr_X12_isName_16, if_neg (show ¬ (24 : Int32) ≤ nI i from nI_ge (b := 24) (by omega) (by decide)), if_pos rfl, nc_li_v, nI_1]
      exact ih (i + 1) (by omega)
  exact key 24 0 (by omega)
/-- the model: is it the word j -/
theorem sm_isWord {j : Nat} (hj : j < 24) (h11 : w.1 12 0 11 = 1) (hw : w.2 12 0 17 = enc8 l) (hl : wl l) : nc_Call m_X12_isWord [mO, .inr (.inl (enc8 (wrd j)))] w = some (some (.inl (tI (wi l = j))), w) := by
  rw [qc_X12_isWord, h11, if_neg (fun q => q rfl), hw]
  by_cases q : wi l = j
  · rw [if_neg (fun z => z (lg0.mpr ((enc8_inj hl (wrd_wl j hj)).mpr ((wi_lt hj).mp q).symm))), tI_t q]
  · rw [if_pos (fun z => q ((wi_lt hj).mpr ((enc8_inj hl (wrd_wl j hj)).mp (lg0.mp z)).symm)), tI_f q]
theorem sm_isWord_f {y : Int64} (h11 : w.1 12 0 11 ≠ 1) : nc_Call m_X12_isWord [mO, .inr (.inl y)] w = some (some (.inl 0), w) := by
  rw [qc_X12_isWord, if_pos h11]
end EN
