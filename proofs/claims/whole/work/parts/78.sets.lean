/-! SETS WITHIN A SET, in their order. -/
def pdp : Nat → Nat → Nat → Nat
  | 0, _, _ => 0
  | b + 1, a, k => if a % 2 = 1 then k % 2 + 2 * pdp b (a / 2) (k / 2) else 2 * pdp b (a / 2) k
def pcb : Nat → Nat → Nat
  | 0, _ => 0
  | b + 1, a => a % 2 + pcb b (a / 2)
section SW
theorem land2 (x y : Nat) : x &&& y = 2 * (x / 2 &&& y / 2) + (if x % 2 = 1 ∧ y % 2 = 1 then 1 else 0) := by
  have h1 : (x &&& y) / 2 = x / 2 &&& y / 2 := Nat.and_div_two
  have h2 : (x &&& y) % 2 = 1 ↔ x % 2 = 1 ∧ y % 2 = 1 := Nat.and_mod_two_eq_one
  by_cases q : x % 2 = 1 ∧ y % 2 = 1
  · rw [if_pos q, ← h1]
    have := h2.mpr q
    omega
  · rw [if_neg q, ← h1]
    have : ¬ (x &&& y) % 2 = 1 := fun z => q (h2.mp z)
    omega
theorem p2s (b : Nat) : 2 ^ (b + 1) = 2 * 2 ^ b := by rw [Nat.pow_succ, Nat.mul_comm]
theorem p2p (b : Nat) : 0 < 2 ^ b := Nat.pow_pos (by decide)
theorem pdp_lt : ∀ b a k, pdp b a k < 2 ^ b
  | 0, _, _ => Nat.one_pos
  | b + 1, a, k => by
    unfold pdp
    rw [p2s]
    have h1 := pdp_lt b (a / 2) (k / 2)
    have h2 := pdp_lt b (a / 2) k
    split <;> omega
theorem pdp_0 : ∀ b a, pdp b a 0 = 0
  | 0, _ => rfl
  | b + 1, a => by
    unfold pdp
    rw [Nat.zero_div, pdp_0 b]
    split <;> rfl
theorem pdp_sub : ∀ b a k, pdp b a k &&& a = pdp b a k
  | 0, a, _ => Nat.zero_and a
  | b + 1, a, k => by
    unfold pdp
    have h1 := pdp_sub b (a / 2) (k / 2)
    have h2 := pdp_sub b (a / 2) k
    by_cases q : a % 2 = 1
    · rw [if_pos q, land2, show (k % 2 + 2 * pdp b (a / 2) (k / 2)) / 2 = pdp b (a / 2) (k / 2) by omega, h1]
      split <;> omega
    · rw [if_neg q, land2, show (2 * pdp b (a / 2) k) / 2 = pdp b (a / 2) k by omega, h2, if_neg (by omega)]
      omega
theorem pdp_mono : ∀ b a k k', k < k' → k' < 2 ^ pcb b a → pdp b a k < pdp b a k'
  | 0, a, k, k', h1, h2 => by
    have : k' < 1 := h2
    omega
  | b + 1, a, k, k', h1, h2 => by
    unfold pcb at h2
    unfold pdp
    by_cases q : a % 2 = 1
    · rw [if_pos q, if_pos q]
      rw [q, Nat.add_comm, p2s] at h2
      by_cases e : k / 2 = k' / 2
      · rw [e]
        omega
      · have := pdp_mono b (a / 2) (k / 2) (k' / 2) (by omega) (by omega)
        omega
    · rw [if_neg q, if_neg q]
      rw [show a % 2 = 0 by omega, Nat.zero_add] at h2
      have := pdp_mono b (a / 2) k k' h1 h2
      omega
theorem pdp_surj : ∀ b a t, a < 2 ^ b → t &&& a = t → ∃ k, k < 2 ^ pcb b a ∧ pdp b a k = t
  | 0, a, t, h1, h2 => by
    have ha : a = 0 := by
      have : a < 1 := h1
      omega
    subst ha
    rw [Nat.and_zero] at h2
    exact ⟨0, Nat.one_pos, h2⟩
  | b + 1, a, t, h1, h2 => by
    rw [p2s] at h1
    have l := land2 t a
    rw [h2] at l
    have sub : t / 2 &&& a / 2 = t / 2 := by
      split at l <;> omega
    obtain ⟨k, k1, k2⟩ := pdp_surj b (a / 2) (t / 2) (by omega) sub
    unfold pcb pdp
    by_cases q : a % 2 = 1
    · refine ⟨2 * k + t % 2, ?_, ?_⟩
      · rw [q, Nat.add_comm 1, p2s]
        omega
      · rw [if_pos q, show (2 * k + t % 2) / 2 = k by omega, k2]
        omega
    · refine ⟨k, ?_, ?_⟩
      · rw [show a % 2 = 0 by omega, Nat.zero_add]
        exact k1
      · rw [if_neg q, k2]
        rw [if_neg (fun z => q z.2)] at l
        omega
theorem ful : ∀ b a s, a < 2 ^ b → s &&& a = s → (s + (2 ^ b - 1 - a)) &&& a = s
  | 0, a, s, h1, h2 => by
    have ha : a = 0 := by
      have : a < 1 := h1
      omega
    subst ha
    rw [Nat.and_zero] at h2 ⊢
    exact h2
  | b + 1, a, s, h1, h2 => by
    have p := p2p b
    rw [p2s] at h1 ⊢
    have l := land2 s a
    rw [h2] at l
    have sub : s / 2 &&& a / 2 = s / 2 := by
      split at l <;> omega
    have ih := ful b (a / 2) (s / 2) (by omega) sub
    have le : s % 2 ≤ a % 2 := by
      split at l <;> omega
    rw [land2, show (s + (2 * 2 ^ b - 1 - a)) / 2 = s / 2 + (2 ^ b - 1 - a / 2) by omega, ih]
    by_cases q : a % 2 = 1
    · by_cases r : s % 2 = 1
      · rw [if_pos ⟨by omega, q⟩]
        omega
      · rw [if_neg (fun z => by have := z.1; omega)]
        omega
    · rw [if_neg (fun z => q z.2)]
      omega
theorem pdp_nx : ∀ b a k, a < 2 ^ b → k + 1 < 2 ^ pcb b a → (pdp b a k + (2 ^ b - a)) &&& a = pdp b a (k + 1)
  | 0, a, k, h1, h2 => by
    have : k + 1 < 1 := h2
    omega
  | b + 1, a, k, h1, h2 => by
    have p := p2p b
    unfold pcb at h2
    unfold pdp
    rw [p2s] at h1 ⊢
    by_cases q : a % 2 = 1
    · rw [if_pos q, if_pos q]
      rw [q, Nat.add_comm 1, p2s] at h2
      by_cases e : k % 2 = 1
      · have ih := pdp_nx b (a / 2) (k / 2) (by omega) (by omega)
        rw [land2, show (k % 2 + 2 * pdp b (a / 2) (k / 2) + (2 * 2 ^ b - a)) / 2 = pdp b (a / 2) (k / 2) + (2 ^ b - a / 2) by omega, ih, if_neg (fun z => by have := z.1; omega), show (k + 1) % 2 = 0 by omega, show (k + 1) / 2 = k / 2 + 1 by omega]
        omega
      · have fu := ful b (a / 2) (pdp b (a / 2) (k / 2)) (by omega) (pdp_sub b _ _)
        rw [land2, show (k % 2 + 2 * pdp b (a / 2) (k / 2) + (2 * 2 ^ b - a)) / 2 = pdp b (a / 2) (k / 2) + (2 ^ b - 1 - a / 2) by omega, fu, if_pos ⟨by omega, q⟩, show (k + 1) % 2 = 1 by omega, show (k + 1) / 2 = k / 2 by omega]
        omega
    · rw [if_neg q, if_neg q]
      rw [show a % 2 = 0 by omega, Nat.zero_add] at h2
      have ih := pdp_nx b (a / 2) k (by omega) h2
      rw [land2, show (2 * pdp b (a / 2) k + (2 * 2 ^ b - a)) / 2 = pdp b (a / 2) k + (2 ^ b - a / 2) by omega, ih, if_neg (fun z => q z.2)]
      omega
theorem pc_b (a : Nat) : pc a = pcb 10 a := by
  unfold pc
  simp only [pcb, Nat.div_div_eq_div_mul]
  omega
abbrev pd (a k : Nat) : Nat := pdp 10 a k
theorem toN_nI {n : Nat} (h : n < 2 ^ 32) : (nI n).toBitVec.toNat = n := pk_tn h
theorem set_nx {s a : Nat} (hs : s < 1024) (ha : a < 1024) : (nI s - nI a) &&& nI a = nI ((s + (2 ^ 10 - a)) &&& a) := by
  refine Int32.toBitVec_inj.mp (BitVec.eq_of_toNat_eq ?_)
  have hl : (s + (2 ^ 10 - a)) &&& a < 2 ^ 10 := Nat.and_lt_two_pow _ ha
  rw [Int32.toBitVec_and, BitVec.toNat_and, Int32.toBitVec_sub, BitVec.toNat_sub, toN_nI (by omega), toN_nI (by omega), toN_nI (by omega)]
  have e1 : ((2 ^ 32 - a + s) % 2 ^ 32) &&& a < 2 ^ 10 := Nat.and_lt_two_pow _ ha
  have e2 : (((2 ^ 32 - a + s) % 2 ^ 32) &&& a) % 2 ^ 10 = ((s + (2 ^ 10 - a)) &&& a) % 2 ^ 10 := by
    rw [Nat.and_mod_two_pow, Nat.and_mod_two_pow, show (2 ^ 32 - a + s) % 2 ^ 32 % 2 ^ 10 = (s + (2 ^ 10 - a)) % 2 ^ 10 by omega]
  rw [Nat.mod_eq_of_lt e1, Nat.mod_eq_of_lt hl] at e2
  exact e2
theorem set_next {a k : Nat} (ha : a < 1024) (hk : k + 1 < 2 ^ pcb 10 a) : (nI (pd a k) - nI a) &&& nI a = nI (pd a (k + 1)) := by
  rw [set_nx (pdp_lt 10 a k) ha, pdp_nx 10 a k ha hk]
theorem it_add {α : Type} {st : Nat → α → α} : ∀ (m n i : Nat) (a : α), it st i (m + n) a = it st (i + m) n (it st i m a)
  | 0, n, i, a => by rw [Nat.zero_add, Nat.add_zero]; rfl
  | m + 1, n, i, a => by
    rw [Nat.add_right_comm]
    show it st (i + 1) (m + n) (st i a) = it st (i + (m + 1)) n (it st (i + 1) m (st i a))
    rw [it_add m n (i + 1), show i + 1 + m = i + (m + 1) by omega]
theorem it_skip {α : Type} {st : Nat → α → α} : ∀ (n i : Nat) (a : α), (∀ j, i ≤ j → j < i + n → ∀ b, st j b = b) → it st i n a = a
  | 0, _, _, _ => rfl
  | n + 1, i, a, h => by
    show it st (i + 1) n (st i a) = a
    rw [h i (Nat.le_refl _) (by omega), it_skip n (i + 1) a (fun j h1 h2 => h j (by omega) (by omega))]
theorem gap {a k t : Nat} (ha : a < 1024) (hk : k + 1 < 2 ^ pcb 10 a) (h1 : pd a k < t) (h2 : t < pd a (k + 1)) : t &&& a ≠ t := by
  intro q
  obtain ⟨j, j1, j2⟩ := pdp_surj 10 a t ha q
  by_cases e : j ≤ k
  · by_cases e2 : j = k
    · subst e2
      unfold pd at h1
      omega
    · have := pdp_mono 10 a j k (by omega) (by omega)
      unfold pd at h1
      omega
  · by_cases e2 : j = k + 1
    · subst e2
      unfold pd at h2
      omega
    · have := pdp_mono 10 a (k + 1) j (by omega) j1
      unfold pd at h2
      omega
theorem it_sub1 {α : Type} {st : Nat → α → α} {a : Nat} (ha : a < 1024) (hs : ∀ s, s &&& a ≠ s → ∀ b, st s b = b) (b : α) : ∀ k, k < 2 ^ pcb 10 a → it st 0 (pd a k + 1) b = it (fun k b => st (pd a k) b) 0 (k + 1) b
  | 0, _ => by
    rw [show pd a 0 = 0 from pdp_0 10 a]
    show st 0 b = st (pd a 0) b
    rw [show pd a 0 = 0 from pdp_0 10 a]
  | k + 1, hk => by
    have ih := it_sub1 ha hs b k (by omega)
    have m : pd a k < pd a (k + 1) := pdp_mono 10 a k (k + 1) (by omega) hk
    obtain ⟨g, hg⟩ : ∃ g, pd a (k + 1) = pd a k + 1 + g := ⟨pd a (k + 1) - pd a k - 1, by omega⟩
    rw [it_succ (k + 1), Nat.zero_add, ← ih, show pd a (k + 1) + 1 = (pd a k + 1) + (g + 1) by omega, it_add, Nat.zero_add, it_succ, it_skip g (pd a k + 1) _ (fun j h1 h2 b => hs j (gap ha hk (by omega) (by omega)) b), ← hg]
theorem it_sub {α : Type} {st : Nat → α → α} {a n : Nat} (ha : a < 1024) (hs : ∀ s, s &&& a ≠ s → ∀ b, st s b = b) (hn : a < n) (b : α) : it st 0 n b = it (fun k b => st (pd a k) b) 0 (2 ^ pcb 10 a) b := by
  obtain ⟨k, k1, k2⟩ := pdp_surj 10 a a ha (Nat.and_self a)
  have p := p2p (pcb 10 a)
  have e : k = 2 ^ pcb 10 a - 1 := by
    refine Classical.byContradiction (fun q => ?_)
    have m := pdp_mono 10 a k (2 ^ pcb 10 a - 1) (by omega) (by omega)
    have := pdp_sub 10 a (2 ^ pcb 10 a - 1)
    have l : pdp 10 a (2 ^ pcb 10 a - 1) &&& a ≤ a := Nat.and_le_right
    omega
  have h := it_sub1 ha hs b k k1
  rw [show pd a k = a from k2, show k + 1 = 2 ^ pcb 10 a by omega] at h
  rw [← h, show n = (a + 1) + (n - (a + 1)) by omega, it_add, it_skip _ _ _ (fun j h1 h2 b => hs j (fun q => by
    have l : j &&& a ≤ a := Nat.and_le_right
    omega) b)]
theorem tb_bq {m i : Nat} (hm : m < 1024) (hi : i < 32) : bq (nI m) (nI i) ↔ m.testBit i = true := by
  rw [bq_bt hi]
  unfold bt
  show (BitVec.ofNat 32 m).getLsbD i = true ↔ _
  rw [BitVec.getLsbD_ofNat, decide_eq_true hi, Bool.true_and]
theorem toSet {x : Int32} {N : Nat} (hN : N ≤ 10) (h : ∀ n, n < 32 → bq x (nI n) → n < N) : ∃ m, m < 2 ^ N ∧ x = nI m := by
  refine ⟨x.toBitVec.toNat, Nat.lt_pow_two_of_testBit _ (fun i hi => ?_), ?_⟩
  · by_cases q : i < 32
    · have : ¬ bq x (nI i) := fun z => by have := h i q z; omega
      rw [bq_bt q] at this
      exact Bool.eq_false_iff.mpr this
    · exact Nat.testBit_lt_two_pow (Nat.lt_of_lt_of_le x.toBitVec.isLt (Nat.pow_le_pow_right (by decide) (by omega)))
  · exact Int32.toBitVec_inj.mp (BitVec.eq_of_toNat_eq (toN_nI x.toBitVec.isLt).symm)
theorem sub_bq {s a : Nat} (hs : s < 1024) (ha : a < 1024) : s &&& a = s ↔ ∀ n, n < 32 → bq (nI s) (nI n) → bq (nI a) (nI n) := by
  constructor
  · intro e n hn q
    rw [tb_bq hs hn] at q
    rw [tb_bq ha hn]
    rw [← e, Nat.testBit_and] at q
    exact (Bool.and_eq_true_iff.mp q).2
  · intro e
    apply Nat.eq_of_testBit_eq
    intro i
    rw [Nat.testBit_and]
    by_cases q : s.testBit i = true
    · by_cases hi : i < 32
      · have := (tb_bq ha hi).mp (e i hi ((tb_bq hs hi).mpr q))
        rw [q, this]
        rfl
      · have := Nat.testBit_lt_two_pow (x := s) (i := i) (Nat.lt_of_lt_of_le (show s < 2 ^ 10 from hs) (Nat.pow_le_pow_right (by decide) (by omega)))
        rw [q] at this
        cases this
    · rw [Bool.eq_false_iff.mpr q]
      rfl
end SW
