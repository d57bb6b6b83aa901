/-! BITS: the first family is pasted out of kit/laws/BITS.to-paste -/
/-! ===== Int32 by its bits: bt x i ===== -/
def bt (x : Int32) (i : Nat) : Bool := x.toBitVec.getLsbD i
theorem b_ext {x y : Int32} (h : ∀ i, i < 32 → bt x i = bt y i) : x = y := Int32.toBitVec_inj.mp (BitVec.eq_of_getLsbD_eq (fun i hi => h i hi))
theorem b_or (x y : Int32) (i : Nat) : bt (x ||| y) i = (bt x i || bt y i) := by unfold bt; rw [Int32.toBitVec_or, BitVec.getLsbD_or]
theorem b_and (x y : Int32) (i : Nat) : bt (x &&& y) i = (bt x i && bt y i) := by unfold bt; rw [Int32.toBitVec_and, BitVec.getLsbD_and]
theorem b_xor (x y : Int32) (i : Nat) : bt (x ^^^ y) i = (bt x i ^^ bt y i) := by unfold bt; rw [Int32.toBitVec_xor, BitVec.getLsbD_xor]
theorem b_big {x : Int32} {i : Nat} (h : 32 ≤ i) : bt x i = false := BitVec.getLsbD_of_ge _ _ h
theorem b_255 (i : Nat) : bt 255 i = decide (i < 8) := by
  rcases Nat.lt_or_ge i 32 with h | h
  · exact (by decide +kernel : ∀ i, i < 32 → bt 255 i = decide (i < 8)) i h
  · rw [b_big h, decide_eq_false (by omega)]
theorem b_65535 (i : Nat) : bt 65535 i = decide (i < 16) := by
  rcases Nat.lt_or_ge i 32 with h | h
  · exact (by decide +kernel : ∀ i, i < 32 → bt 65535 i = decide (i < 16)) i h
  · rw [b_big h, decide_eq_false (by omega)]
theorem b_m1 : ∀ i, i < 32 → bt (-1) i = true := by decide +kernel
theorem b_0 (i : Nat) : bt 0 i = false := BitVec.getLsbD_zero
theorem s_l : ∀ n, n < 32 → ((nI n &&& 31).toBitVec.smod 32).toNat = n := by decide +kernel
theorem s_u : ∀ n, n < 32 → (((nI n).toUInt32 &&& Int32.toUInt32 31).toBitVec % 32).toNat = n := by decide +kernel
theorem b_shl (n : Nat) (hn : n < 32) (x : Int32) {i : Nat} (hi : i < 32) : bt (x <<< (nI n &&& 31)) i = (decide (n ≤ i) && bt x (i - n)) := by
  unfold bt
  rw [Int32.toBitVec_shiftLeft]
  show (x.toBitVec <<< ((nI n &&& 31).toBitVec.smod 32).toNat).getLsbD i = _
  rw [s_l n hn, BitVec.getLsbD_shiftLeft]
  rcases Nat.lt_or_ge i n with h | h
  · simp [h, Nat.not_le.mpr h]
  · simp [hi, h, Nat.not_lt.mpr h]
theorem b_ushr (n : Nat) (hn : n < 32) (x : Int32) (i : Nat) : bt ((x.toUInt32 >>> ((nI n).toUInt32 &&& Int32.toUInt32 31)).toInt32) i = bt x (n + i) := by
  show (x.toUInt32 >>> ((nI n).toUInt32 &&& Int32.toUInt32 31)).toBitVec.getLsbD i = x.toUInt32.toBitVec.getLsbD (n + i)
  rw [UInt32.toBitVec_shiftRight]
  show (x.toUInt32.toBitVec >>> (((nI n).toUInt32 &&& Int32.toUInt32 31).toBitVec % 32).toNat).getLsbD i = _
  rw [s_u n hn, BitVec.getLsbD_ushiftRight]
theorem b_sshr (n : Nat) (hn : n < 32) (x : Int32) {i : Nat} (hi : i < 32) : bt (x >>> (nI n &&& 31)) i = if n + i < 32 then bt x (n + i) else bt x 31 := by
  unfold bt
  rw [Int32.toBitVec_shiftRight]
  show (x.toBitVec.sshiftRight ((nI n &&& 31).toBitVec.smod 32).toNat).getLsbD i = _
  rw [s_l n hn, BitVec.getLsbD_sshiftRight, BitVec.msb_eq_getLsbD_last]
  simp [hi]
theorem bt_1 : ∀ i, i < 32 → bt 1 i = decide (i = 0) := by decide +kernel
theorem and1 (y : Int32) : y &&& 1 = 1 ↔ bt y 0 = true := by
  constructor
  · intro h
    have h1 : bt (y &&& 1) 0 = bt 1 0 := by rw [h]
    rw [b_and, bt_1 0 (by omega)] at h1
    simpa using h1
  · intro h
    refine b_ext (fun i hi => ?_)
    rw [b_and, bt_1 i hi]
    by_cases e : i = 0
    · subst e
      simp [h]
    · simp [e]
theorem bq_bt {x : Int32} {n : Nat} (hn : n < 32) : bq x (nI n) ↔ bt x n = true := by
  show (x >>> (nI n &&& 31)) &&& 1 = 1 ↔ _
  rw [and1, b_sshr n hn x (by omega), if_pos (by omega), Nat.add_zero]
theorem bq_or {x y : Int32} {n : Nat} (hn : n < 32) : bq (x ||| y) (nI n) ↔ bq x (nI n) ∨ bq y (nI n) := by
  rw [bq_bt hn, bq_bt hn, bq_bt hn, b_or, Bool.or_eq_true]
theorem bq_and {x y : Int32} {n : Nat} (hn : n < 32) : bq (x &&& y) (nI n) ↔ bq x (nI n) ∧ bq y (nI n) := by
  rw [bq_bt hn, bq_bt hn, bq_bt hn, b_and, Bool.and_eq_true]
theorem bq_not {x : Int32} {n : Nat} (hn : n < 32) : bq (x ^^^ (-1)) (nI n) ↔ ¬ bq x (nI n) := by
  rw [bq_bt hn, bq_bt hn, b_xor, b_m1 n hn]
  cases bt x n <;> simp
theorem bq_z {n : Nat} (hn : n < 32) : ¬ bq 0 (nI n) := by
  rw [bq_bt hn, b_0]
  simp
theorem bt_bs {k i : Nat} (hk : k < 32) (hi : i < 32) : bt (bs k) i = decide (i = k) := by
  unfold bs
  rw [b_shl k hk 1 hi]
  by_cases h : k ≤ i
  · rw [bt_1 (i - k) (by omega)]
    by_cases e : i = k
    · subst e
      simp
    · have : ¬ i - k = 0 := by omega
      simp [h, e, this]
  · have : ¬ i = k := by omega
    simp [h, this]
theorem bq_bs {k n : Nat} (hk : k < 32) (hn : n < 32) : bq (bs k) (nI n) ↔ n = k := by
  rw [bq_bt hn, bt_bs hk hn]
  simp
/-- bits gathered in a loop -/
theorem it_bits {P : Nat → Prop} [DecidablePred P] {N : Nat} (hN : N ≤ 32) : ∀ (k i : Nat) (x : Int32), i + k = N → ∀ n, n < 32 → (bq (it (fun i (x : Int32) => x ||| (if P i then bs i else 0)) i k x) (nI n) ↔ bq x (nI n) ∨ (i ≤ n ∧ n < N ∧ P n))
  | 0, i, x, h, n, hn => by
    show bq x (nI n) ↔ _
    exact ⟨Or.inl, fun q => q.elim id (fun q => absurd q.1 (by omega))⟩
  | k + 1, i, x, h, n, hn => by
    show bq (it (fun i (x : Int32) => x ||| (if P i then bs i else 0)) (i + 1) k (x ||| (if P i then bs i else 0))) (nI n) ↔ _
    rw [it_bits hN k (i + 1) _ (by omega) n hn, bq_or hn]
    by_cases hp : P i
    · rw [if_pos hp, bq_bs (by omega) hn]
      constructor
      · rintro ((q | q) | ⟨q1, q2, q3⟩)
        · exact Or.inl q
        · subst q
          exact Or.inr ⟨Nat.le_refl _, by omega, hp⟩
        · exact Or.inr ⟨by omega, q2, q3⟩
      · rintro (q | ⟨q1, q2, q3⟩)
        · exact Or.inl (Or.inl q)
        · by_cases e : n = i
          · exact Or.inl (Or.inr e)
          · exact Or.inr ⟨by omega, q2, q3⟩
    · rw [if_neg hp]
      constructor
      · rintro ((q | q) | ⟨q1, q2, q3⟩)
        · exact Or.inl q
        · exact absurd q (bq_z hn)
        · exact Or.inr ⟨by omega, q2, q3⟩
      · rintro (q | ⟨q1, q2, q3⟩)
        · exact Or.inl (Or.inl q)
        · by_cases e : n = i
          · subst e
            exact absurd q3 hp
          · exact Or.inr ⟨by omega, q2, q3⟩
/-- bit n of what cow c knows -/
theorem bq_kns {S : Nat → Int32} {N c n : Nat} (hN : N ≤ 10) (hn : n < 32) : bq (kns S N c) (nI n) ↔ n < N ∧ kn S c n := by
  unfold kns
  rw [it_bits (P := fun i => kn S c i) (N := N) (by omega) N 0 0 (by omega) n hn]
  exact ⟨fun q => q.elim (fun q => absurd q (bq_z hn)) (fun q => q.2), fun q => Or.inr ⟨by omega, q⟩⟩
theorem hos_eq {S : Nat → Int32} {C c n : Nat} : ∀ (k i : Nat) (x : Int32), i + k = C → (x = 0 ∨ x = 1) → (it (fun o (x : Int32) => if x ≠ 0 then 1 else tI (ho S c n o)) i k x ≠ 0 ↔ x ≠ 0 ∨ ∃ o, i ≤ o ∧ o < C ∧ ho S c n o)
  | 0, i, x, h, hx => by
    show x ≠ 0 ↔ _
    exact ⟨Or.inl, fun q => q.elim id (fun ⟨o, q1, q2, _⟩ => absurd q1 (by omega))⟩
  | k + 1, i, x, h, hx => by
    show it (fun o (x : Int32) => if x ≠ 0 then 1 else tI (ho S c n o)) (i + 1) k (if x ≠ 0 then 1 else tI (ho S c n i)) ≠ 0 ↔ _
    by_cases h0 : x ≠ 0
    · rw [if_pos h0, hos_eq (C := C) k (i + 1) 1 (by omega) (Or.inr rfl)]
      exact ⟨fun _ => Or.inl h0, fun _ => Or.inl (by decide)⟩
    · rw [if_neg h0, hos_eq (C := C) k (i + 1) _ (by omega) tI_01, tI_ne]
      constructor
      · rintro (q | ⟨o, q1, q2, q3⟩)
        · exact Or.inr ⟨i, Nat.le_refl _, by omega, q⟩
        · exact Or.inr ⟨o, by omega, q2, q3⟩
      · rintro (q | ⟨o, q1, q2, q3⟩)
        · exact absurd q h0
        · by_cases e : o = i
          · subst e
            exact Or.inl q3
          · exact Or.inr ⟨o, by omega, q2, q3⟩
theorem hos_iff {S : Nat → Int32} {C c n : Nat} : hos S C c n ≠ 0 ↔ ∃ o, o < C ∧ ho S c n o := by
  unfold hos
  rw [hos_eq (C := C) C 0 0 (by omega) (Or.inl rfl)]
  exact ⟨fun q => q.elim (fun q => absurd rfl q) (fun ⟨o, _, q⟩ => ⟨o, q⟩), fun ⟨o, q⟩ => Or.inr ⟨o, by omega, q⟩⟩
