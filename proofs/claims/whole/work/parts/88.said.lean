/-! said. -/
section SA
variable {w v v' : nc_H} {f C N h d c i n : Nat} {S : Nat → Int32}
/-- a compare by a sign -/
def cmp (x b e : Int32) : Int32 := if b = 60 then tI (x < e) else if b = 61 then tI (x = e) else tI (e < x)
theorem cmp_01 {x b e : Int32} : cmp x b e = 0 ∨ cmp x b e = 1 := by
  unfold cmp
  split
  · exact tI_01
  · split
    · exact tI_01
    · exact tI_01
theorem cmp_60 {x e : Int32} : cmp x 60 e = tI (x < e) := if_pos rfl
theorem cmp_61 {x e : Int32} : cmp x 61 e = tI (x = e) := (if_neg (by decide)).trans (if_pos rfl)
theorem cmp_62 {x e : Int32} : cmp x 62 e = tI (e < x) := (if_neg (by decide)).trans (if_neg (by decide))
theorem ss_compares {sn : Nat} {x b e : Int32} (hi : i < 40) (h7 : w.1 677 sn i = b) (h8 : w.1 678 sn i = e) (hb : b = 60 ∨ b = 61 ∨ b = 62) : nc_Call m_X9_compares [.inr (.inr (9, sn)), .inl x, .inl (nI i)] w = some (some (.inl (cmp x b e)), w) := by
  rw [qc_X9_compares, bd8 i 40 hi (by decide), h7]
  rcases hb with rfl | rfl | rfl
  · rw [if_neg (fun q => q rfl), bd8 i 40 hi (by decide), h8, cmp_60]
    by_cases q : x < e
    · rw [if_neg (Int32.not_le.mpr q), tI_t q]
    · rw [if_pos (Int32.not_lt.mp q), tI_f q]
  · rw [if_pos (by decide), bd8 i 40 hi (by decide), h7, if_pos (by decide), bd8 i 40 hi (by decide), h8, cmp_61]
    by_cases q : x = e
    · rw [if_neg (fun z => z q), tI_t q]
    · rw [if_pos q, tI_f q]
  · rw [if_pos (by decide), bd8 i 40 hi (by decide), h7, if_neg (fun q => q rfl), bd8 i 40 hi (by decide), h8, cmp_62]
    by_cases q : e < x
    · rw [if_neg (Int32.not_le.mpr q), tI_t q]
    · rw [if_pos (Int32.not_lt.mp q), tI_f q]
theorem cmp_m {x b e : Int32} {v : nc_H} (hb : b = 60 ∨ b = 61 ∨ b = 62) : (if b ≠ 60 then (if b ≠ 61 then (if x ≤ e then (some (some (.inl 0), v) : Option nc_R) else some (some (.inl 1), v)) else (if x ≠ e then some (some (.inl 0), v) else some (some (.inl 1), v))) else (if e ≤ x then some (some (.inl 0), v) else some (some (.inl 1), v))) = some (some (.inl (cmp x b e)), v) := by
  rcases hb with rfl | rfl | rfl
  · rw [if_neg (fun q => q rfl), cmp_60]
    by_cases q : x < e
    · rw [if_neg (Int32.not_le.mpr q), tI_t q]
    · rw [if_pos (Int32.not_lt.mp q), tI_f q]
  · rw [if_pos (by decide), if_neg (fun q => q rfl), cmp_61]
    by_cases q : x = e
    · rw [if_neg (fun z => z q), tI_t q]
    · rw [if_pos q, tI_f q]
  · rw [if_pos (by decide), if_pos (by decide), cmp_62]
    by_cases q : e < x
    · rw [if_neg (Int32.not_le.mpr q), tI_t q]
    · rw [if_pos (Int32.not_lt.mp q), tI_f q]
/-- one leaf, of both -/
theorem leaf_both {k : Nat} {a b e : Int32} (hi : i < 40) (hk : k < 9) (hc : c < C) (hD : DR w 0 S f C N h) (hL : LR w 0 S f C N) (hkk : dok S f C N h) (hl : lok S C N d) (h6 : w.1 676 0 i = nI (15 + k)) (ha : a = nI k) (h2 : k = 2 → w.1 678 0 i = e) (h3 : k = 3 ∨ k = 4 → w.1 678 0 i = e ∧ ∃ n, n < N ∧ e = nI n) (h5 : 5 ≤ k → w.1 677 0 i = b ∧ w.1 678 0 i = e ∧ (b = 60 ∨ b = 61 ∨ b = 62)) (hv : v.1 874 0 = S) : ∃ r, (r = 0 ∨ r = 1) ∧ nc_Call m_X9_isSo [.inr (.inr (9, 0)), lO 0, .inl (nI c), .inl (nI i)] w = some (some (.inl r), w) ∧ nc_Call m_X12_isLeaf [mO, .inl (nI c), .inl a, .inl b, .inl e] v = some (some (.inl r), v) := by
  have hC : C ≤ 8 := hD.1.2.2.2.2.2.1
  have hN : N ≤ 10 := hD.1.2.2.2.2.2.2.1
  have h8 : c < 8 := by omega
  have hs : shp (v.1 874 0) f C N h := by rw [hv]; exact hkk.1
  subst ha
  rw [qc_X9_isSo, qc_X12_isLeaf, bd8 i 40 hi (by decide), h6]
  have ek : k = 0 ∨ k = 1 ∨ k = 2 ∨ k = 3 ∨ k = 4 ∨ k = 5 ∨ k = 6 ∨ k = 7 ∨ k = 8 := by omega
  rcases ek with rfl | rfl | rfl | rfl | rfl | rfl | rfl | rfl | rfl
  · refine ⟨tI (bq (S 77) (nI c)), tI_01, ?_, ?_⟩
    · rw [if_pos (by decide), sl_isDry, nc_bI_v, nc_z_tI, hL.1.1.1.2.1]
    · rw [if_pos (by decide), sm_isDry, nc_bI_v, nc_z_tI, hv]
  · refine ⟨tI (cu S c), tI_01, ?_, ?_⟩
    · rw [if_neg (by decide), if_pos (by decide), sl_isCurdled w hL.1.1 (dOK_of hl) h8, nc_bI_v, nc_z_tI]
    · rw [if_neg (by decide), if_pos (by decide), sm_isCurdled v h8, nc_bI_v, nc_z_tI, hv]
  · refine ⟨tI (S (5 + c) = e), tI_01, ?_, ?_⟩
    · rw [if_neg (by decide), if_neg (by decide), if_pos (by decide), bd8 c 8 h8 (by decide), bd8 i 40 hi (by decide), h2 rfl]
      show (if w.1 238 0 c ≠ e then _ else _) = _
      rw [(hD.2.2.1 c hc).1]
      by_cases q : S (5 + c) = e
      · rw [if_neg (fun z => z q), tI_t q]
      · rw [if_pos q, tI_f q]
    · rw [if_neg (by decide), if_neg (by decide), if_pos (by decide), pl_5 (by omega), hv]
      by_cases q : S (5 + c) = e
      · rw [if_neg (fun z => z q), tI_t q]
      · rw [if_pos q, tI_f q]
  · obtain ⟨z1, n, z2, z3⟩ := h3 (Or.inl rfl)
    subst z3
    have eb : bq (kns S N c) (nI n) ↔ kn S c n := by
      rw [bq_kns hN (by omega)]
      exact ⟨fun q => q.2, fun q => ⟨z2, q⟩⟩
    refine ⟨tI (kn S c n), tI_01, ?_, ?_⟩
    · rw [if_neg (by decide), if_neg (by decide), if_neg (by decide), if_pos (by decide), bd8 c 8 h8 (by decide), bd8 i 40 hi (by decide), z1, hL.1.2.2.2.1 c hc]
      by_cases q : kn S c n
      · rw [if_neg (fun z => z (eb.mpr q)), tI_t q]
      · rw [if_pos (fun z => q (eb.mp z)), tI_f q]
    · rw [if_neg (by decide), if_neg (by decide), if_neg (by decide), if_pos (by decide), sm_knows v h8 (by omega), nc_bI_v, nc_z_tI, hv]
  · obtain ⟨z1, n, z2, z3⟩ := h3 (Or.inr rfl)
    subst z3
    refine ⟨tI (bq (S (100 + c)) (nI n)), tI_01, ?_, ?_⟩
    · rw [if_neg (by decide), if_neg (by decide), if_neg (by decide), if_neg (by decide), if_pos (by decide), bd8 c 8 h8 (by decide), bd8 i 40 hi (by decide), z1, (hL.1.1.2 c h8).1]
      by_cases q : bq (S (100 + c)) (nI n)
      · rw [if_neg (fun z => z q), tI_t q]
      · rw [if_pos q, tI_f q]
    · rw [if_neg (by decide), if_neg (by decide), if_neg (by decide), if_neg (by decide), if_pos (by decide), pl_100 (by omega), sm_bitOf, nc_bI_v, nc_z_tI, hv]
  · obtain ⟨z1, z2, z3⟩ := h5 (by omega)
    refine ⟨cmp (mwi S C N c 0) b e, cmp_01, ?_, ?_⟩
    · rw [if_neg (by decide), if_neg (by decide), if_neg (by decide), if_neg (by decide), if_neg (by decide), if_pos (by decide), sl_milk (a := 0) hD hL.1.1 hkk.2.1 (dOK_of hl) hc, nc_bI_v, ss_compares hi z1 z2 z3, nc_bI_v, nc_z_of cmp_01]
    · rw [if_neg (by decide), if_neg (by decide), if_neg (by decide), if_neg (by decide), if_neg (by decide), if_neg (fun q => q (by decide)), sm_milk v hs h8, nc_bI_v, hv]
      exact cmp_m z3
  · obtain ⟨z1, z2, z3⟩ := h5 (by omega)
    refine ⟨cmp (S (87 + c)) b e, cmp_01, ?_, ?_⟩
    · rw [if_neg (by decide), if_neg (by decide), if_neg (by decide), if_neg (by decide), if_neg (by decide), if_neg (by decide), if_pos (by decide), bd8 c 8 h8 (by decide), hL.2.1 c h8, ss_compares hi z1 z2 z3, nc_bI_v, nc_z_of cmp_01]
    · rw [if_neg (by decide), if_neg (by decide), if_neg (by decide), if_neg (by decide), if_neg (by decide), if_pos (by decide), if_neg (fun q => q (by decide)), pl_87 (by omega), nc_li_v, hv]
      exact cmp_m z3
  · obtain ⟨z1, z2, z3⟩ := h5 (by omega)
    refine ⟨cmp (S (79 + c)) b e, cmp_01, ?_, ?_⟩
    · rw [if_neg (by decide), if_neg (by decide), if_neg (by decide), if_neg (by decide), if_neg (by decide), if_neg (by decide), if_neg (by decide), if_pos (by decide), bd8 c 8 h8 (by decide), hL.1.2.2.1 c h8, ss_compares hi z1 z2 z3, nc_bI_v, nc_z_of cmp_01]
    · rw [if_neg (by decide), if_neg (by decide), if_neg (by decide), if_neg (by decide), if_neg (by decide), if_pos (by decide), if_pos (by decide), if_neg (fun q => q (by decide)), pl_79 (by omega), nc_li_v, hv]
      exact cmp_m z3
  · obtain ⟨z1, z2, z3⟩ := h5 (by omega)
    refine ⟨cmp (nI c) b e, cmp_01, ?_, ?_⟩
    · rw [if_neg (by decide), if_neg (by decide), if_neg (by decide), if_neg (by decide), if_neg (by decide), if_neg (by decide), if_neg (by decide), if_neg (by decide), ss_compares hi z1 z2 z3, nc_bI_v, nc_z_of cmp_01]
    · rw [if_neg (by decide), if_neg (by decide), if_neg (by decide), if_neg (by decide), if_neg (by decide), if_pos (by decide), if_pos (by decide), if_pos (by decide)]
      exact cmp_m z3
/-- the truths that wait, of both -/
def TR (x : Int32) (g : Nat → Int32) (n : Nat) : Prop := ∀ j, j < n → (g j = 0 ∨ g j = 1) ∧ (g j = 1 ↔ bq x (nI (n - 1 - j)))
theorem bq_and1 {x : Int32} {k : Nat} (hk : k < 32) : bq (x &&& 1) (nI k) ↔ k = 0 ∧ bq x (nI 0) := by
  rw [bq_and hk, show (1 : Int32) = bs 0 from rfl, bq_bs (by decide) hk]
  constructor
  · rintro ⟨q1, q2⟩
    subst q2
    exact ⟨rfl, q1⟩
  · rintro ⟨q1, q2⟩
    subst q1
    exact ⟨q2, rfl⟩
theorem bq_shr1 {x : Int32} {k : Nat} (hk : k < 31) : bq (x >>> (1 &&& 31)) (nI k) ↔ bq x (nI (k + 1)) := by
  rw [bq_bt (by omega), bq_bt (by omega)]
  have := b_sshr 1 (by decide) x (i := k) (by omega)
  rw [show nI 1 = 1 from rfl, if_pos (by omega), Nat.add_comm] at this
  rw [this]
theorem bq_shl1 {x : Int32} {k : Nat} (hk : k < 32) : bq (x <<< (1 &&& 31)) (nI k) ↔ 1 ≤ k ∧ bq x (nI (k - 1)) := by
  rw [bq_bt hk]
  have := b_shl 1 (by decide) x (i := k) hk
  rw [show nI 1 = 1 from rfl] at this
  rw [this, Bool.and_eq_true, decide_eq_true_iff]
  constructor
  · rintro ⟨q1, q2⟩
    exact ⟨q1, (bq_bt (by omega)).mpr q2⟩
  · rintro ⟨q1, q2⟩
    exact ⟨q1, (bq_bt (by omega)).mp q2⟩
theorem bq_m2 : ∀ k, k < 32 → (bq (-2) (nI k) ↔ k ≠ 0) := by decide +kernel
theorem bq_one : ∀ k, k < 32 → (bq 1 (nI k) ↔ k = 0) := by decide +kernel
theorem bq_xor1 {x : Int32} {k : Nat} (hk : k < 32) : bq (x ^^^ 1) (nI k) ↔ (if k = 0 then ¬ bq x (nI k) else bq x (nI k)) := by
  have e : bq 1 (nI k) ↔ k = 0 := bq_one k hk
  rw [bq_bt hk] at e
  rw [bq_bt hk, bq_bt hk, b_xor]
  by_cases q : k = 0
  · rw [if_pos q, e.mpr q]
    cases bt x k <;> simp
  · have : bt 1 k = false := Bool.eq_false_iff.mpr (fun z => q (e.mp z))
    rw [if_neg q, this]
    cases bt x k <;> simp
theorem zero_iff {a : Int32} (h : a = 0 ∨ a = 1) : a = 0 ↔ ¬ a = 1 := by
  rcases h with rfl | rfl <;> decide
theorem TR_push {x : Int32} {g : Nat → Int32} {r : Int32} (hn : n ≤ 20) (h : TR x g n) (hr : r = 0 ∨ r = 1) : TR ((x <<< (1 &&& 31)) ||| r) (upd g n r) (n + 1) := by
  intro j hj
  by_cases e : j = n
  · subst e
    rw [upd_s]
    refine ⟨hr, ?_⟩
    rw [show j + 1 - 1 - j = 0 by omega, bq_or (by decide), bq_shl1 (by decide)]
    rcases hr with rfl | rfl
    · exact ⟨fun q => absurd q (by decide), fun q => q.elim (fun z => absurd z.1 (by omega)) (fun z => absurd z (bq_z (by decide)))⟩
    · exact ⟨fun _ => Or.inr ((bq_one 0 (by decide)).mpr rfl), fun _ => rfl⟩
  · rw [upd_n e]
    have o := h j (by omega)
    refine ⟨o.1, o.2.trans ?_⟩
    rw [show n + 1 - 1 - j = (n - 1 - j) + 1 by omega, bq_or (by omega), bq_shl1 (by omega), Nat.add_sub_cancel]
    constructor
    · intro q
      exact Or.inl ⟨by omega, q⟩
    · rintro (q | q)
      · exact q.2
      · rcases hr with rfl | rfl
        · exact absurd q (bq_z (by omega))
        · have := (bq_one (n - 1 - j + 1) (by omega)).mp q
          omega
theorem TR_not {x : Int32} {g : Nat → Int32} {r : Int32} (hn : n + 1 ≤ 20) (h : TR x g (n + 1)) (hr : (r = 0 ∨ r = 1) ∧ (r = 1 ↔ ¬ g n = 1)) : TR (x ^^^ 1) (upd g n r) (n + 1) := by
  intro j hj
  have o := h j hj
  by_cases e : j = n
  · subst e
    rw [upd_s]
    refine ⟨hr.1, ?_⟩
    rw [bq_xor1 (by omega), if_pos (by omega), hr.2, o.2]
  · rw [upd_n e, bq_xor1 (by omega), if_neg (by omega)]
    exact o
theorem TR_or {x : Int32} {g : Nat → Int32} {r : Int32} (hn : n + 2 ≤ 20) (h : TR x g (n + 2)) (hr : (r = 0 ∨ r = 1) ∧ (r = 1 ↔ g n = 1 ∨ g (n + 1) = 1)) : TR ((x >>> (1 &&& 31)) ||| (x &&& 1)) (upd g n r) (n + 1) := by
  intro j hj
  have o := h j (by omega)
  by_cases e : j = n
  · subst e
    have o2 := h (j + 1) (by omega)
    rw [upd_s]
    refine ⟨hr.1, ?_⟩
    rw [hr.2, o.2, o2.2, bq_or (by omega), bq_shr1 (by omega), bq_and1 (by omega), show j + 2 - 1 - j = 1 by omega, show j + 2 - 1 - (j + 1) = 0 by omega, show j + 1 - 1 - j = 0 by omega]
    exact ⟨fun q => q.elim Or.inl (fun z => Or.inr ⟨rfl, z⟩), fun q => q.elim Or.inl (fun z => Or.inr z.2)⟩
  · rw [upd_n e]
    refine ⟨o.1, o.2.trans ?_⟩
    rw [bq_or (by omega), bq_shr1 (by omega), bq_and1 (by omega), show n + 2 - 1 - j = n + 1 - 1 - j + 1 by omega]
    exact ⟨Or.inl, fun q => q.elim id (fun z => absurd z.1 (by omega))⟩
theorem TR_and {x : Int32} {g : Nat → Int32} {r : Int32} (hn : n + 2 ≤ 20) (h : TR x g (n + 2)) (hr : (r = 0 ∨ r = 1) ∧ (r = 1 ↔ g n = 1 ∧ g (n + 1) = 1)) : TR ((x >>> (1 &&& 31)) &&& ((x &&& 1) ||| (-2))) (upd g n r) (n + 1) := by
  intro j hj
  have o := h j (by omega)
  by_cases e : j = n
  · subst e
    have o2 := h (j + 1) (by omega)
    rw [upd_s]
    refine ⟨hr.1, ?_⟩
    rw [hr.2, o.2, o2.2, bq_and (by omega), bq_shr1 (by omega), bq_or (by omega), bq_and1 (by omega), bq_m2 _ (by omega), show j + 2 - 1 - j = 1 by omega, show j + 2 - 1 - (j + 1) = 0 by omega, show j + 1 - 1 - j = 0 by omega]
    exact ⟨fun q => ⟨q.1, Or.inl ⟨rfl, q.2⟩⟩, fun q => ⟨q.1, q.2.elim (fun z => z.2) (fun z => absurd rfl z)⟩⟩
  · rw [upd_n e]
    refine ⟨o.1, o.2.trans ?_⟩
    rw [bq_and (by omega), bq_shr1 (by omega), bq_or (by omega), bq_m2 _ (by omega), show n + 2 - 1 - j = n + 1 - 1 - j + 1 by omega]
    exact ⟨fun q => ⟨q, Or.inr (by omega)⟩, fun q => q.1⟩
theorem nle1 {k : Nat} (hk : k < 9) : nI k ≠ 20 ∧ nI k ≠ 21 ∧ nI k ≠ 22 ∧ nI (15 + k) ≠ 12 ∧ nI (15 + k) ≠ 13 ∧ nI (15 + k) ≠ 14 := by
  have ek : k = 0 ∨ k = 1 ∨ k = 2 ∨ k = 3 ∨ k = 4 ∨ k = 5 ∨ k = 6 ∨ k = 7 ∨ k = 8 := by omega
  rcases ek with rfl | rfl | rfl | rfl | rfl | rfl | rfl | rfl | rfl <;> decide
theorem holds_both {m : Nat} {dep : Nat → Nat} (hm : m ≤ 39) (hm0 : m ≠ 0) (hd1 : dep m = 1) (hd20 : ∀ i, i ≤ m → dep i ≤ 20) (hS3 : S 332 = nI m) (hw3 : w.1 9 0 3 = nI m) (hco : ∀ i, i < m → codeR (w.1 676 0 i) (w.1 677 0 i) (w.1 678 0 i) (S (333 + 3 * i)) (S (334 + 3 * i)) (S (335 + 3 * i)) N ∧ stp (S (333 + 3 * i)) (dep i) (dep (i + 1))) (hc : c < C) (hD : DR w 0 S f C N h) (hL : LR w 0 S f C N) (hkk : dok S f C N h) (hl : lok S C N d) : ∀ (k i : Nat) (x : Int32) (v : nc_H), i + k = m → v.1 874 0 = S → TR x (v.1 913 0) (dep i) → ∃ r v', (r = 0 ∨ r = 1) ∧ nc_Run m_X9_holds 5 [some (.inr (.inr (9, 0))), some (lO 0), some (.inl (nI c)), some (.inl x), some (.inl (nI i)), none] [] w = some (some (.inl r), w) ∧ nc_Run m_X12_isSaid 4 [some mO, some (.inl (nI c)), some (.inl (nI (dep i))), some (.inl (nI i)), none] [] v = some (some (.inl r), v') ∧ eqO (fun t a => t = 913 ∧ a = 0) v v' := by
  intro k
  induction k with
  | zero =>
    intro i x v hi hv hT
    have e : i = m := by omega
    subst e
    rw [hd1] at hT
    have t := hT 0 (by omega)
    refine ⟨v.1 913 0 0, v, t.1, ?_, ?_, eqO.rf⟩
    · rw [qr_X9_holds_5, hw3, if_pos (nI_le (Nat.le_refl _) (by omega))]
      have e1 : x &&& 1 = 1 ↔ bq x (nI (1 - 1 - 0)) := by
        rw [and1, bq_bt (by decide)]
      by_cases q : v.1 913 0 0 = 1
      · rw [if_neg (fun z => z (e1.mpr (t.2.mp q))), q]
      · rw [if_pos (fun z => q (t.2.mpr (e1.mp z))), (zero_iff t.1).mpr q]
    · rw [qr_X12_isSaid_4, hv, hS3, if_pos (nI_le (Nat.le_refl _) (by omega)), nc_z_of t.1]
  | succ k ih =>
    intro i x v hi hv hT
    obtain ⟨hcr, hst⟩ := hco i (by omega)
    have d1 := hd20 i (by omega)
    have d2 := hd20 (i + 1) (by omega)
    have ix : (333 : Int32) + 3 * nI i = nI (333 + 3 * i) := by
      rw [show (3 : Int32) = nI 3 from rfl, pk_mul, show (333 : Int32) = nI 333 from rfl, nI_add]
    have ix1 : nI (333 + 3 * i) + 1 = nI (334 + 3 * i) := by rw [nI_1, show 333 + 3 * i + 1 = 334 + 3 * i by omega]
    have ix2 : nI (333 + 3 * i) + 2 = nI (335 + 3 * i) := by rw [show (2 : Int32) = nI 2 from rfl, nI_add, show 333 + 3 * i + 2 = 335 + 3 * i by omega]
    have fin : ∀ (x' : Int32) (r : Int32) (nn : Nat), dep (i + 1) = nn → TR x' (upd (v.1 913 0) (nn - 1) r) nn → ∃ q v', (q = 0 ∨ q = 1) ∧ nc_Run m_X9_holds 5 [some (.inr (.inr (9, 0))), some (lO 0), some (.inl (nI c)), some (.inl x'), some (.inl (nI (i + 1))), none] [] w = some (some (.inl q), w) ∧ nc_Run m_X12_isSaid 4 [some mO, some (.inl (nI c)), some (.inl (nI nn)), some (.inl (nI (i + 1))), none] [] (row v 913 0 (upd (v.1 913 0) (nn - 1) r)) = some (some (.inl q), v') ∧ eqO (fun t a => t = 913 ∧ a = 0) v v' := by
      intro x' r nn hnn hT'
      obtain ⟨q, v', a1, a2, a3, a4⟩ := ih (i + 1) x' (row v 913 0 (upd (v.1 913 0) (nn - 1) r)) (by omega) (by rw [row_t (by decide)]; exact hv) (by rw [row_s, hnn]; exact hT')
      rw [hnn] at a3
      exact ⟨q, v', a1, a2, a3, (eqO.rf.row ⟨rfl, rfl⟩).tr a4⟩
    rcases hcr with ⟨c1, c2⟩ | ⟨c1, c2⟩ | ⟨c1, c2⟩ | ⟨kk, k1, k2, k3, k4, k5, k6⟩
    · -- not
      have hs2 : 1 ≤ dep i ∧ dep (i + 1) = dep i := by
        unfold stp at hst
        rw [c1] at hst
        rcases hst with z | z | z
        · exact z.2
        · exact absurd z.1 (by decide)
        · exact absurd rfl z.1
      obtain ⟨n, hn⟩ : ∃ n, dep i = n + 1 := ⟨dep i - 1, by omega⟩
      rw [hn] at hT d1 hs2 ⊢
      have ixn : nI (n + 1) - 1 = nI n := nI_pred n
      have t := hT n (by omega)
      have cl : nc_Run m_X9_holds 5 [some (.inr (.inr (9, 0))), some (lO 0), some (.inl (nI c)), some (.inl x), some (.inl (nI i)), none] [] w = nc_Run m_X9_holds 5 [some (.inr (.inr (9, 0))), some (lO 0), some (.inl (nI c)), some (.inl (x ^^^ 1)), some (.inl (nI (i + 1))), none] [] w := by
        rw [qr_X9_holds_5, hw3, if_neg (nI_ge (by omega) (by omega)), nc_li_v, bd8 i 40 (by omega) (by decide), c2, if_pos (by decide), bd8 i 40 (by omega) (by decide), c2, if_pos (by decide), bd8 i 40 (by omega) (by decide), c2, if_neg (fun q => q rfl), nc_li_v, nc_li_v, nI_1]
      by_cases q : v.1 913 0 n = 0
      · obtain ⟨r', v', a1, a2, a3, a4⟩ := fin (x ^^^ 1) 1 (n + 1) hs2.2 (TR_not (n := n) (by omega) hT ⟨Or.inr rfl, ⟨fun _ z => absurd (q.symm.trans z) (by decide), fun _ => rfl⟩⟩)
        refine ⟨r', v', a1, cl.trans a2, Eq.trans ?_ a3, a4⟩
        rw [qr_X12_isSaid_4, hv, hS3, if_neg (nI_ge (by omega) (by omega)), nc_li_v, ix, bd8 (333 + 3 * i) 513 (by omega) (by decide), c1, if_neg (fun q => q rfl), ixn, bd8 n 45 (by omega) (by decide), if_neg (fun z => z q), bd8 n 45 (by omega) (by decide), nc_lt_v, nc_li_v, nI_1, si_rw]
        rfl
      · obtain ⟨r', v', a1, a2, a3, a4⟩ := fin (x ^^^ 1) 0 (n + 1) hs2.2 (TR_not (n := n) (by omega) hT ⟨Or.inl rfl, ⟨fun z => absurd z (by decide), fun z => absurd (t.1.elim (fun y => absurd y q) id) z⟩⟩)
        refine ⟨r', v', a1, cl.trans a2, Eq.trans ?_ a3, a4⟩
        rw [qr_X12_isSaid_4, hv, hS3, if_neg (nI_ge (by omega) (by omega)), nc_li_v, ix, bd8 (333 + 3 * i) 513 (by omega) (by decide), c1, if_neg (fun q => q rfl), ixn, bd8 n 45 (by omega) (by decide), if_pos q, bd8 n 45 (by omega) (by decide), nc_lt_v, nc_li_v, nI_1, si_rw]
        rfl
    · -- and
      have hs2 : 2 ≤ dep i ∧ dep (i + 1) + 1 = dep i := by
        unfold stp at hst
        rw [c1] at hst
        rcases hst with z | z | z
        · exact absurd z.1 (by decide)
        · exact z.2
        · exact absurd rfl z.2.1
      obtain ⟨n, hn⟩ : ∃ n, dep i = n + 2 := ⟨dep i - 2, by omega⟩
      rw [hn] at hT d1 hs2 ⊢
      have ixn : nI (n + 2) + Int32.ofInt (-1) = nI (n + 1) := by
        rw [show Int32.ofInt (-1) = -1 by decide]
        exact pk_m1 (n + 1)
      have ixn1 : nI (n + 1) - 1 = nI n := nI_pred n
      have t := hT n (by omega)
      have t1 := hT (n + 1) (by omega)
      have cl : nc_Run m_X9_holds 5 [some (.inr (.inr (9, 0))), some (lO 0), some (.inl (nI c)), some (.inl x), some (.inl (nI i)), none] [] w = nc_Run m_X9_holds 5 [some (.inr (.inr (9, 0))), some (lO 0), some (.inl (nI c)), some (.inl ((x >>> (1 &&& 31)) &&& ((x &&& 1) ||| (-2)))), some (.inl (nI (i + 1))), none] [] w := by
        rw [qr_X9_holds_5, hw3, if_neg (nI_ge (by omega) (by omega)), nc_li_v, bd8 i 40 (by omega) (by decide), c2, if_pos (by decide), bd8 i 40 (by omega) (by decide), c2, if_neg (fun q => q rfl), nc_li_v, nc_li_v, nI_1]
      have go : ∀ r : Int32, (r = 0 ∨ r = 1) ∧ (r = 1 ↔ v.1 913 0 n = 1 ∧ v.1 913 0 (n + 1) = 1) → nc_Run m_X12_isSaid 4 [some mO, some (.inl (nI c)), some (.inl (nI (n + 2))), some (.inl (nI i)), none] [] v = nc_Run m_X12_isSaid 163 [some mO, some (.inl (nI c)), some (.inl (nI (n + 1))), some (.inl (nI i)), some (.inl (nI (333 + 3 * i)))] [.inl r, .inl (nI n), .inr (.inr (913, 0))] v → ∃ q v', (q = 0 ∨ q = 1) ∧ nc_Run m_X9_holds 5 [some (.inr (.inr (9, 0))), some (lO 0), some (.inl (nI c)), some (.inl x), some (.inl (nI i)), none] [] w = some (some (.inl q), w) ∧ nc_Run m_X12_isSaid 4 [some mO, some (.inl (nI c)), some (.inl (nI (n + 2))), some (.inl (nI i)), none] [] v = some (some (.inl q), v') ∧ eqO (fun t a => t = 913 ∧ a = 0) v v' := by
        intro r hr hrun
        obtain ⟨r', v', a1, a2, a3, a4⟩ := fin _ r (n + 1) (by omega) (TR_and (by omega) hT hr)
        refine ⟨r', v', a1, cl.trans a2, hrun.trans (Eq.trans ?_ a3), a4⟩
        rw [qr_X12_isSaid_163, bd8 n 45 (by omega) (by decide), nc_z_of hr.1, nc_lt_v, nc_li_v, nI_1, si_rw]
        rfl
      have ml : nc_Run m_X12_isSaid 4 [some mO, some (.inl (nI c)), some (.inl (nI (n + 2))), some (.inl (nI i)), none] [] v = nc_Run m_X12_isSaid 110 [some mO, some (.inl (nI c)), some (.inl (nI (n + 1))), some (.inl (nI i)), some (.inl (nI (333 + 3 * i)))] [.inl (nI n), .inr (.inr (913, 0))] v := by
        rw [qr_X12_isSaid_4, hv, hS3, if_neg (nI_ge (by omega) (by omega)), nc_li_v, ix, bd8 (333 + 3 * i) 513 (by omega) (by decide), c1, if_pos (by decide), bd8 (333 + 3 * i) 513 (by omega) (by decide), c1, if_pos rfl, qr_X12_isSaid_88, ixn, nc_li_v, bd8 (333 + 3 * i) 513 (by omega) (by decide), hv, c1, if_neg (fun q => q rfl), ixn1]
      by_cases q : v.1 913 0 n = 0
      · exact go 0 ⟨Or.inl rfl, ⟨fun z => absurd z (by decide), fun z => by rw [q] at z; exact absurd z.1 (by decide)⟩⟩ (by rw [ml, qr_X12_isSaid_110, ixn1, bd8 n 45 (by omega) (by decide), if_pos q])
      · by_cases q2 : v.1 913 0 (n + 1) = 0
        · exact go 0 ⟨Or.inl rfl, ⟨fun z => absurd z (by decide), fun z => by rw [q2] at z; exact absurd z.2 (by decide)⟩⟩ (by rw [ml, qr_X12_isSaid_110, ixn1, bd8 n 45 (by omega) (by decide), if_neg q, bd8 (n + 1) 45 (by omega) (by decide), if_pos q2])
        · exact go 1 ⟨Or.inr rfl, ⟨fun _ => ⟨t.1.elim (fun y => absurd y q) id, t1.1.elim (fun y => absurd y q2) id⟩, fun _ => rfl⟩⟩ (by rw [ml, qr_X12_isSaid_110, ixn1, bd8 n 45 (by omega) (by decide), if_neg q, bd8 (n + 1) 45 (by omega) (by decide), if_neg q2])
    · -- or
      have hs2 : 2 ≤ dep i ∧ dep (i + 1) + 1 = dep i := by
        unfold stp at hst
        rw [c1] at hst
        rcases hst with z | z | z
        · exact absurd z.1 (by decide)
        · exact z.2
        · exact absurd rfl z.2.2.1
      obtain ⟨n, hn⟩ : ∃ n, dep i = n + 2 := ⟨dep i - 2, by omega⟩
      rw [hn] at hT d1 hs2 ⊢
      have ixn : nI (n + 2) + Int32.ofInt (-1) = nI (n + 1) := by
        rw [show Int32.ofInt (-1) = -1 by decide]
        exact pk_m1 (n + 1)
      have ixn1 : nI (n + 1) - 1 = nI n := nI_pred n
      have t := hT n (by omega)
      have t1 := hT (n + 1) (by omega)
      have cl : nc_Run m_X9_holds 5 [some (.inr (.inr (9, 0))), some (lO 0), some (.inl (nI c)), some (.inl x), some (.inl (nI i)), none] [] w = nc_Run m_X9_holds 5 [some (.inr (.inr (9, 0))), some (lO 0), some (.inl (nI c)), some (.inl ((x >>> (1 &&& 31)) ||| (x &&& 1))), some (.inl (nI (i + 1))), none] [] w := by
        rw [qr_X9_holds_5, hw3, if_neg (nI_ge (by omega) (by omega)), nc_li_v, bd8 i 40 (by omega) (by decide), c2, if_neg (fun q => q rfl), nc_li_v, nc_li_v, nI_1]
      have go : ∀ r : Int32, (r = 0 ∨ r = 1) ∧ (r = 1 ↔ v.1 913 0 n = 1 ∨ v.1 913 0 (n + 1) = 1) → nc_Run m_X12_isSaid 4 [some mO, some (.inl (nI c)), some (.inl (nI (n + 2))), some (.inl (nI i)), none] [] v = nc_Run m_X12_isSaid 163 [some mO, some (.inl (nI c)), some (.inl (nI (n + 1))), some (.inl (nI i)), some (.inl (nI (333 + 3 * i)))] [.inl r, .inl (nI n), .inr (.inr (913, 0))] v → ∃ q v', (q = 0 ∨ q = 1) ∧ nc_Run m_X9_holds 5 [some (.inr (.inr (9, 0))), some (lO 0), some (.inl (nI c)), some (.inl x), some (.inl (nI i)), none] [] w = some (some (.inl q), w) ∧ nc_Run m_X12_isSaid 4 [some mO, some (.inl (nI c)), some (.inl (nI (n + 2))), some (.inl (nI i)), none] [] v = some (some (.inl q), v') ∧ eqO (fun t a => t = 913 ∧ a = 0) v v' := by
        intro r hr hrun
        obtain ⟨r', v', a1, a2, a3, a4⟩ := fin _ r (n + 1) (by omega) (TR_or (by omega) hT hr)
        refine ⟨r', v', a1, cl.trans a2, hrun.trans (Eq.trans ?_ a3), a4⟩
        rw [qr_X12_isSaid_163, bd8 n 45 (by omega) (by decide), nc_z_of hr.1, nc_lt_v, nc_li_v, nI_1, si_rw]
        rfl
      have ml : nc_Run m_X12_isSaid 4 [some mO, some (.inl (nI c)), some (.inl (nI (n + 2))), some (.inl (nI i)), none] [] v = nc_Run m_X12_isSaid 138 [some mO, some (.inl (nI c)), some (.inl (nI (n + 1))), some (.inl (nI i)), some (.inl (nI (333 + 3 * i)))] [.inl (nI n), .inr (.inr (913, 0))] v := by
        rw [qr_X12_isSaid_4, hv, hS3, if_neg (nI_ge (by omega) (by omega)), nc_li_v, ix, bd8 (333 + 3 * i) 513 (by omega) (by decide), c1, if_pos (by decide), bd8 (333 + 3 * i) 513 (by omega) (by decide), c1, if_neg (by decide), bd8 (333 + 3 * i) 513 (by omega) (by decide), c1, if_neg (fun q => q rfl), qr_X12_isSaid_88, ixn, nc_li_v, bd8 (333 + 3 * i) 513 (by omega) (by decide), hv, c1, if_pos (by decide), ixn1]
      by_cases q : v.1 913 0 n = 0
      · by_cases q2 : v.1 913 0 (n + 1) = 0
        · exact go 0 ⟨Or.inl rfl, ⟨fun z => absurd z (by decide), fun z => by rw [q, q2] at z; exact z.elim (fun y => absurd y (by decide)) (fun y => absurd y (by decide))⟩⟩ (by rw [ml, qr_X12_isSaid_138, ixn1, bd8 n 45 (by omega) (by decide), if_neg (fun z => z q), bd8 (n + 1) 45 (by omega) (by decide), if_pos q2])
        · exact go 1 ⟨Or.inr rfl, ⟨fun _ => Or.inr (t1.1.elim (fun y => absurd y q2) id), fun _ => rfl⟩⟩ (by rw [ml, qr_X12_isSaid_138, ixn1, bd8 n 45 (by omega) (by decide), if_neg (fun z => z q), bd8 (n + 1) 45 (by omega) (by decide), if_neg q2])
      · exact go 1 ⟨Or.inr rfl, ⟨fun _ => Or.inl (t.1.elim (fun y => absurd y q) id), fun _ => rfl⟩⟩ (by rw [ml, qr_X12_isSaid_138, ixn1, bd8 n 45 (by omega) (by decide), if_pos q])
    · -- a leaf
      have nl := nle1 k1
      have hs2 : dep (i + 1) = dep i + 1 := by
        unfold stp at hst
        rw [k2] at hst
        rcases hst with z | z | z
        · exact absurd z.1 nl.1
        · exact absurd z.1 (fun y => y.elim nl.2.1 nl.2.2.1)
        · exact z.2.2.2
      obtain ⟨r, r1, r2, r3⟩ := leaf_both (v := v) (a := S (333 + 3 * i)) (b := S (334 + 3 * i)) (e := S (335 + 3 * i)) (show i < 40 by omega) k1 hc hD hL hkk hl k3 k2 k4 k5 k6 hv
      have key := fin ((x <<< (1 &&& 31)) ||| r) r (dep i + 1) hs2 (by rw [Nat.add_sub_cancel]; exact TR_push (by omega) hT r1)
      rw [Nat.add_sub_cancel] at key
      obtain ⟨r', v', a1, a2, a3, a4⟩ := key
      refine ⟨r', v', a1, Eq.trans ?_ a2, Eq.trans ?_ a3, a4⟩
      · rw [qr_X9_holds_5, hw3, if_neg (nI_ge (by omega) (by omega)), nc_li_v, bd8 i 40 (by omega) (by decide), k3, if_pos nl.2.2.2.1, bd8 i 40 (by omega) (by decide), k3, if_pos nl.2.2.2.2.1, bd8 i 40 (by omega) (by decide), k3, if_pos nl.2.2.2.2.2, r2, nc_bI_v]
        rcases r1 with rfl | rfl
        · rw [if_pos rfl, nc_li_v, nc_li_v, nI_1]
        · rw [if_neg (by decide), nc_li_v, nc_li_v, nI_1]
      · rw [qr_X12_isSaid_4, hv, hS3, if_neg (nI_ge (by omega) (by omega)), nc_li_v, ix, bd8 (333 + 3 * i) 513 (by omega) (by decide), k2, if_pos nl.1, bd8 (333 + 3 * i) 513 (by omega) (by decide), k2, if_neg nl.2.1, bd8 (333 + 3 * i) 513 (by omega) (by decide), k2, if_pos nl.2.2.1, bd8 (333 + 3 * i) 513 (by omega) (by decide), ix1, bd8 (334 + 3 * i) 513 (by omega) (by decide), ix2, bd8 (335 + 3 * i) 513 (by omega) (by decide), r3, nc_bI_v, bd8 (dep i) 45 (by omega) (by decide), nc_z_of r1, nc_lt_v, nc_li_v, nc_li_v, nI_1, nI_1, si_rw]
theorem op_said (hI : Inv w) (x : Int32) : Op w (nc_Call m_X11_said [cO, .inl x]) (nc_Call m_X12_said [mO, .inl x]) := by
  have hI0 := hI
  obtain ⟨⟨f, C, N, h, d, hW⟩, hM, c3, c4, c5, c6, c7, c8⟩ := hI
  have hW' := hW
  obtain ⟨⟨x1, x2, x3, x4, x5, m, o, dep, y1, y2, y3, y4, y5, y6, y7, y8, y9, y10⟩, x7⟩ := hW'
  have hC : C ≤ 8 := x3.1.2.2.2.2.2.1
  have e2 : w.1 2 0 2 = nI C := x3.2.1.2.1
  by_cases z : m = 0
  · have zo := y3.mpr z
    refine rd hI0 ⟨-1, ?_, ?_⟩
    · rw [qc_X11_said, y6, zo, if_neg (fun q => q rfl)]
    · rw [qc_X12_said, nc_lt_v, thr_si, thr_874, y4, z, if_pos (show nI 0 = 0 from rfl)]
  · have zo : o ≠ 0 := fun q => z (y3.mp q)
    have J : ∀ (k c n : Nat) (v : nc_H), c + k = C → n ≤ c → v.1 874 0 = w.1 874 0 → ∃ r v', nc_Run m_X11_said 16 [some cO, some (.inl x), some (.inl (nI n)), some (.inl (nI c))] [] w = some (some (.inl r), w) ∧ nc_Run m_X12_said 27 [some mO, some (.inl x), some (.inl (nI n)), some (.inl (nI c))] [] v = some (some (.inl r), v') ∧ eqO (fun t a => t = 913 ∧ a = 0) v v' ∧ (x < -1 → r = -1) := by
      intro k
      induction k with
      | zero =>
        intro c n v hc hn hv
        have e : c = C := by omega
        subst e
        rw [qr_X11_said_16, e2, if_pos (nI_le (Nat.le_refl _) (by omega)), qr_X12_said_27, hv, x3.1.2.1, if_pos (nI_le (Nat.le_refl _) (by omega))]
        by_cases q : x = -1
        · rw [if_neg (fun y => y q), if_neg (fun y => y q)]
          exact ⟨_, v, rfl, rfl, eqO.rf, fun y => by rw [q] at y; exact absurd y (by decide)⟩
        · rw [if_pos q, if_pos q]
          exact ⟨_, v, rfl, rfl, eqO.rf, fun _ => rfl⟩
      | succ k ih =>
        intro c n v hc hn hv
        obtain ⟨r, v1, a0, a1, a2, a3⟩ := holds_both (c := c) y1 z (y8 z) y9 y4 y5 y10 (show c < C by omega) x3 x5 x1 x2 m 0 0 v (by omega) hv (fun j hj => by rw [y7] at hj; exact absurd hj (Nat.not_lt_zero j))
        rw [y7] at a2
        have h1 : nc_Call m_X9_holds [.inr (.inr (9, 0)), lO 0, .inl (nI c)] w = some (some (.inl r), w) := by
          rw [qc_X9_holds]
          exact a1
        have h2 : nc_Call m_X12_isSaid [mO, .inl (nI c)] v = some (some (.inl r), v1) := by
          rw [qc_X12_isSaid]
          exact a2
        have v1S : v1.1 874 0 = w.1 874 0 := (a3.2 874 0 (by omega)).trans hv
        by_cases q : r = 0
        · obtain ⟨r', v2, b1, b2, b3, b4⟩ := ih (c + 1) n v1 (by omega) (by omega) v1S
          refine ⟨r', v2, Eq.trans ?_ b1, Eq.trans ?_ b2, a3.tr b3, b4⟩
          · rw [qr_X11_said_16, e2, if_neg (nI_ge (by omega) (by omega)), h1, nc_bI_v, if_pos q, nc_li_v, nI_1]
          · rw [qr_X12_said_27, hv, x3.1.2.1, if_neg (nI_ge (by omega) (by omega)), h2, nc_bI_v, if_neg (fun y => y q), nc_li_v, nI_1]
        · by_cases q2 : nI n = x
          · refine ⟨nI c, v1, ?_, ?_, a3, fun y => ?_⟩
            · rw [qr_X11_said_16, e2, if_neg (nI_ge (by omega) (by omega)), h1, nc_bI_v, if_neg q, if_neg (fun y => y q2)]
            · rw [qr_X12_said_27, hv, x3.1.2.1, if_neg (nI_ge (by omega) (by omega)), h2, nc_bI_v, if_pos q, if_neg (fun y => y q2)]
            · rw [← q2] at y
              exact absurd (Int32.lt_trans y (by decide)) (nI_pos (by omega))
          · obtain ⟨r', v2, b1, b2, b3, b4⟩ := ih (c + 1) (n + 1) v1 (by omega) (by omega) v1S
            refine ⟨r', v2, Eq.trans ?_ b1, Eq.trans ?_ b2, a3.tr b3, b4⟩
            · rw [qr_X11_said_16, e2, if_neg (nI_ge (by omega) (by omega)), h1, nc_bI_v, if_neg q, if_pos q2, nc_li_v, nc_li_v, nI_1, nI_1]
            · rw [qr_X12_said_27, hv, x3.1.2.1, if_neg (nI_ge (by omega) (by omega)), h2, nc_bI_v, if_pos q, if_pos q2, nc_li_v, nc_li_v, nI_1, nI_1]
    obtain ⟨r, v', j1, j2, j3, j4⟩ := J C 0 0 (thr w 0) (by omega) (by omega) (by rw [thr_874])
    have cc : nc_Call m_X11_said [cO, .inl x] w = some (some (.inl r), w) := by
      rw [qc_X11_said, y6, if_pos (nI_ne0 (by omega) (by omega))]
      exact j1
    by_cases q : (-1 : Int32) ≤ x
    · refine ⟨r, w, v', cc, ?_, ?_⟩
      · rw [qc_X12_said, nc_lt_v, thr_si, thr_874, y4, if_neg (nI_ne0 (by omega) (by omega)), if_pos q]
        exact j2
      · have g12 : ∀ k, k ≠ 0 → v'.1 12 0 k = w.1 12 0 k := fun k hk => by rw [j3.2 12 0 (by omega), thr_k hk]
        have gt : ∀ t, t ≠ 12 → t ≠ 913 → v'.1 t 0 = w.1 t 0 := fun t h1 h2 => by rw [j3.2 t 0 (by omega), thr_t h1]
        exact Inv_j hI0 (thr_O.tr (j3.mono (fun t a q => Or.inl ⟨q.2, by omega⟩))) (fun k hk => g12 k (by omega)) (TP_eq c6 (fun k hk => g12 k (by omega)) (gt 10 (by decide) (by decide)) (gt 740 (by decide) (by decide)) (gt 869 (by decide) (by decide)))
    · refine rd hI0 ⟨-1, ?_, ?_⟩
      · rw [cc, j4 (Int32.not_le.mp q)]
      · rw [qc_X12_said, nc_lt_v, thr_si, thr_874, y4, if_neg (nI_ne0 (by omega) (by omega)), if_neg q]
end SA
