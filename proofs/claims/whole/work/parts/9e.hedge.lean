/-! Lines: hedges. -/
section LH
variable {w w' v v' : nc_H} {b : Nat → Nat} {sz lim n i : Nat} {t : Tok} {f C N h : Nat} {S S' : Nat → Int32}
theorem pop_a : ∀ x, x < 64 → ∀ c, c < 6 → x / 2 ^ c % 2 = 0 → pop6 (x + 2 ^ c) = pop6 x + 1 ∧ x + 2 ^ c < 64 := by decide +kernel
theorem pop_le : ∀ x, x < 64 → pop6 x ≤ 6 := by decide +kernel
theorem pop_b' : (List.range 64).all (fun x => (List.range 6).all (fun c => (List.range 6).all (fun d => decide (x / 2 ^ c % 2 ≠ 0) || decide ((x + 2 ^ c) / 2 ^ d % 2 ≠ 1) || decide (d = c) || decide (x / 2 ^ d % 2 = 1)))) = true := by decide +kernel
theorem pop_b (x : Nat) (hx : x < 64) (c : Nat) (hc : c < 6) (d : Nat) (hd : d < 6) (h1 : x / 2 ^ c % 2 = 0) (h2 : (x + 2 ^ c) / 2 ^ d % 2 = 1) : d = c ∨ x / 2 ^ d % 2 = 1 := by
  have a := List.all_eq_true.mp (List.all_eq_true.mp (List.all_eq_true.mp pop_b' x (List.mem_range.mpr hx)) c (List.mem_range.mpr hc)) d (List.mem_range.mpr hd)
  rw [Bool.or_eq_true, Bool.or_eq_true, Bool.or_eq_true, decide_eq_true_iff, decide_eq_true_iff, decide_eq_true_iff, decide_eq_true_iff] at a
  rcases a with ((a | a) | a) | a
  · exact absurd h1 a
  · exact absurd h2 a
  · exact Or.inl a
  · exact Or.inr a
theorem cd_lt : ∀ a, a < 4 → ∀ b, b < 4 → cd a b < 6 := by decide +kernel
theorem cd_in' : (List.range 4).all (fun a => (List.range 4).all (fun b => (List.range 4).all (fun a' => (List.range 4).all (fun b' => decide (a = b) || decide (a' = b') || decide (cd a b ≠ cd a' b') || decide (a = a' ∧ b = b') || decide (a = b' ∧ b = a'))))) = true := by decide +kernel
theorem cd_in (a : Nat) (ha : a < 4) (b : Nat) (hb : b < 4) (a' : Nat) (ha' : a' < 4) (b' : Nat) (hb' : b' < 4) (h1 : a ≠ b) (h2 : a' ≠ b') (h3 : cd a b = cd a' b') : (a = a' ∧ b = b') ∨ (a = b' ∧ b = a') := by
  have z := List.all_eq_true.mp (List.all_eq_true.mp (List.all_eq_true.mp (List.all_eq_true.mp cd_in' a (List.mem_range.mpr ha)) b (List.mem_range.mpr hb)) a' (List.mem_range.mpr ha')) b' (List.mem_range.mpr hb')
  rw [Bool.or_eq_true, Bool.or_eq_true, Bool.or_eq_true, Bool.or_eq_true, decide_eq_true_iff, decide_eq_true_iff, decide_eq_true_iff, decide_eq_true_iff, decide_eq_true_iff] at z
  rcases z with (((z | z) | z) | z) | z
  · exact absurd z h1
  · exact absurd z h2
  · exact absurd h3 z
  · exact Or.inl z
  · exact Or.inr z
/-- hedge k is between A and G -/
def pq (S : Nat → Int32) (A G : Int32) (k : Nat) : Prop := (S (58 + k) = A ∧ S (64 + k) = G) ∨ (S (58 + k) = G ∧ S (64 + k) = A)
/-- a pair that is new leaves room, and is kept -/
theorem PP_new {a g : Nat} (hP : PP S h) (ha : a < 4) (hg : g < 4) (hag : a ≠ g) (hno : ∀ k, k < h → ¬ pq S (nI a) (nI g) k) : h < 6 ∧ ((∀ k, k < h → S' (58 + k) = S (58 + k) ∧ S' (64 + k) = S (64 + k)) → S' (58 + h) = nI a → S' (64 + h) = nI g → PP S' (h + 1)) := by
  obtain ⟨x, x1, x2, x3⟩ := hP
  have c6 := cd_lt a ha g hg
  have b0 : x / 2 ^ cd a g % 2 = 0 := by
    by_cases q : x / 2 ^ cd a g % 2 = 1
    · obtain ⟨k, k1, k2⟩ := x3 a ha g hg hag q
      exact absurd k2 (hno k k1)
    · omega
  obtain ⟨y1, y2⟩ := pop_a x x1 _ c6 b0
  have := pop_le _ y2
  refine ⟨by omega, fun hS h1 h2 => ⟨x + 2 ^ cd a g, y2, by omega, fun a' ha' b' hb' hab' q => ?_⟩⟩
  rcases pop_b x x1 _ c6 _ (cd_lt a' ha' b' hb') b0 q with e | e
  · refine ⟨h, by omega, ?_⟩
    rw [h1, h2]
    rcases cd_in a' ha' b' hb' a ha g hg hab' hag e with ⟨e1, e2⟩ | ⟨e1, e2⟩
    · exact Or.inl ⟨by rw [e1], by rw [e2]⟩
    · exact Or.inr ⟨by rw [e2], by rw [e1]⟩
  · obtain ⟨k, k1, k2⟩ := x3 a' ha' b' hb' hab' e
    refine ⟨k, by omega, ?_⟩
    rw [(hS k k1).1, (hS k k1).2]
    exact k2
theorem bq_hdf {g : Int32} {k : Nat} (hh : h ≤ 6) (hk : k < 32) : bq (hdf S h g) (nI k) ↔ k < h ∧ (S (58 + k) = g ∨ S (64 + k) = g) := by
  unfold hdf
  rw [it_bits (P := fun i => S (58 + i) = g ∨ S (64 + i) = g) (N := h) (by omega) h 0 0 (by omega) k hk]
  exact ⟨fun q => q.elim (fun q => absurd q (bq_z hk)) (fun q => q.2), fun q => Or.inr ⟨by omega, q⟩⟩
theorem sd_hasHedge {A G : Int32} (hD : DR w 1 S f C N h) (hAG : A ≠ G) : ((∃ k, k < h ∧ pq S A G k) ∧ nc_Call m_X2_hasHedge [.inr (.inr (2, 1)), .inl A, .inl G] w = some (some (.inl 1), w)) ∨ ((∀ k, k < h → ¬ pq S A G k) ∧ nc_Call m_X2_hasHedge [.inr (.inr (2, 1)), .inl A, .inl G] w = some (some (.inl 0), w)) := by
  have hh : h ≤ 6 := hD.1.2.2.2.2.2.2.2
  rw [qc_X2_hasHedge, sd_hedgesOf hD, nc_bI_v, sd_hedgesOf hD, nc_bI_v]
  by_cases q : hdf S h A &&& hdf S h G = 0
  · rw [if_pos q]
    refine Or.inr ⟨fun k hk hp => ?_, rfl⟩
    have z : bq (hdf S h A &&& hdf S h G) (nI k) := by
      rw [bq_and (by omega), bq_hdf hh (by omega), bq_hdf hh (by omega)]
      rcases hp with ⟨e1, e2⟩ | ⟨e1, e2⟩
      · exact ⟨⟨hk, Or.inl e1⟩, hk, Or.inr e2⟩
      · exact ⟨⟨hk, Or.inr e2⟩, hk, Or.inl e1⟩
    rw [q] at z
    exact bq_z (by omega) z
  · rw [if_neg q]
    refine Or.inl ⟨?_, rfl⟩
    by_cases e : ∃ k, k < h ∧ pq S A G k
    · exact e
    · exfalso
      refine q (bq_ext (fun k hk => ⟨fun z => ?_, fun z => absurd z (bq_z hk)⟩))
      rw [bq_and hk, bq_hdf hh hk, bq_hdf hh hk] at z
      obtain ⟨⟨z1, z2⟩, -, z3⟩ := z
      refine absurd ⟨k, z1, ?_⟩ e
      rcases z2 with y | y
      · rcases z3 with y' | y'
        · exact absurd (y.symm.trans y') hAG
        · exact Or.inl ⟨y, y'⟩
      · rcases z3 with y' | y'
        · exact Or.inr ⟨y', y⟩
        · exact absurd (y.symm.trans y') hAG
/-- the model looks through the hedges -/
theorem sm_hedges {A : Int32} (hh : h ≤ 6) : ∀ m j (x : Int32), j + m = h → (x = 0 ∨ x = 1) → ∃ x', (x' = 0 ∨ x' = 1) ∧ nc_Run m_X12_readHedge 67 [some mO, some (.inl (nI h)), some (.inl A), some (.inl x), some (.inl (nI j))] [] v = nc_Run m_X12_readHedge 67 [some mO, some (.inl (nI h)), some (.inl A), some (.inl x'), some (.inl (nI h))] [] v ∧ (x' = 1 ↔ x = 1 ∧ ∀ k, j ≤ k → k < h → ¬ pq (v.1 875 0) A (v.1 12 0 18) k) := by
  intro m
  induction m with
  | zero =>
    intro j x hj hx
    have e : j = h := by omega
    subst e
    exact ⟨x, hx, rfl, fun z => ⟨z, fun k k1 k2 => by omega⟩, fun z => z.1⟩
  | succ m ih =>
    intro j x hj hx
    rcases hx with rfl | rfl
    · obtain ⟨x', a1, a2, a3⟩ := ih (j + 1) 0 (by omega) (Or.inl rfl)
      refine ⟨x', a1, ?_, fun z => absurd (a3.mp z).1 (by decide), fun z => absurd z.1 (by decide)⟩
      refine Eq.trans ?_ a2
      rw [qr_X12_readHedge_67, if_neg (nI_ge (by omega) (by omega)), if_pos rfl, nc_li_v, nI_1]
    · have st : ∀ y : Int32, (y = 0 ∨ y = 1) → (y = 1 ↔ ¬ pq (v.1 875 0) A (v.1 12 0 18) j) → nc_Run m_X12_readHedge 67 [some mO, some (.inl (nI h)), some (.inl A), some (.inl 1), some (.inl (nI j))] [] v = nc_Run m_X12_readHedge 67 [some mO, some (.inl (nI h)), some (.inl A), some (.inl y), some (.inl (nI (j + 1)))] [] v → ∃ x', (x' = 0 ∨ x' = 1) ∧ nc_Run m_X12_readHedge 67 [some mO, some (.inl (nI h)), some (.inl A), some (.inl 1), some (.inl (nI j))] [] v = nc_Run m_X12_readHedge 67 [some mO, some (.inl (nI h)), some (.inl A), some (.inl x'), some (.inl (nI h))] [] v ∧ (x' = 1 ↔ (1 : Int32) = 1 ∧ ∀ k, j ≤ k → k < h → ¬ pq (v.1 875 0) A (v.1 12 0 18) k) := by
        intro y hy hy2 he
        obtain ⟨x', a1, a2, a3⟩ := ih (j + 1) y (by omega) hy
        refine ⟨x', a1, he.trans a2, fun z => ⟨rfl, fun k k1 k2 => ?_⟩, fun z => a3.mpr ⟨hy2.mpr (z.2 j (Nat.le_refl _) (by omega)), fun k k1 k2 => z.2 k (by omega) k2⟩⟩
        by_cases e : k = j
        · rw [e]
          exact hy2.mp (a3.mp z).1
        · exact (a3.mp z).2 k (by omega) k2
      have b1 : ∀ {X : Nat → Option nc_R}, nc_bd (58 + nI j) 76 X = X (58 + j) := nc_bd_of _ (nI_add 58 j) (by omega) (by decide)
      have b2 : ∀ {X : Nat → Option nc_R}, nc_bd (64 + nI j) 76 X = X (64 + j) := nc_bd_of _ (nI_add 64 j) (by omega) (by decide)
      by_cases q1 : v.1 875 0 (58 + j) = A
      · by_cases q2 : v.1 875 0 (64 + j) = v.1 12 0 18
        · refine st 0 (Or.inl rfl) ⟨fun z => absurd z (by decide), fun z => absurd (Or.inl ⟨q1, q2⟩) z⟩ ?_
          rw [qr_X12_readHedge_67, if_neg (nI_ge (by omega) (by omega)), if_neg (by decide), b1, if_neg (fun z => z q1), b2, if_pos q2, nc_li_v, nI_1]
        · by_cases q3 : v.1 875 0 (58 + j) = v.1 12 0 18
          · by_cases q4 : v.1 875 0 (64 + j) = A
            · refine st 0 (Or.inl rfl) ⟨fun z => absurd z (by decide), fun z => absurd (Or.inr ⟨q3, q4⟩) z⟩ ?_
              rw [qr_X12_readHedge_67, if_neg (nI_ge (by omega) (by omega)), if_neg (by decide), b1, if_neg (fun z => z q1), b2, if_neg q2, b1, if_neg (fun z => z q3), b2, if_pos q4, nc_li_v, nI_1]
            · refine st 1 (Or.inr rfl) ⟨fun _ z => z.elim (fun z => q2 z.2) (fun z => q4 z.2), fun _ => rfl⟩ ?_
              rw [qr_X12_readHedge_67, if_neg (nI_ge (by omega) (by omega)), if_neg (by decide), b1, if_neg (fun z => z q1), b2, if_neg q2, b1, if_neg (fun z => z q3), b2, if_neg q4, nc_li_v, nI_1]
          · refine st 1 (Or.inr rfl) ⟨fun _ z => z.elim (fun z => q2 z.2) (fun z => q3 z.1), fun _ => rfl⟩ ?_
            rw [qr_X12_readHedge_67, if_neg (nI_ge (by omega) (by omega)), if_neg (by decide), b1, if_neg (fun z => z q1), b2, if_neg q2, b1, if_pos q3, nc_li_v, nI_1]
      · by_cases q3 : v.1 875 0 (58 + j) = v.1 12 0 18
        · by_cases q4 : v.1 875 0 (64 + j) = A
          · refine st 0 (Or.inl rfl) ⟨fun z => absurd z (by decide), fun z => absurd (Or.inr ⟨q3, q4⟩) z⟩ ?_
            rw [qr_X12_readHedge_67, if_neg (nI_ge (by omega) (by omega)), if_neg (by decide), b1, if_pos q1, b1, if_neg (fun z => z q3), b2, if_pos q4, nc_li_v, nI_1]
          · refine st 1 (Or.inr rfl) ⟨fun _ z => z.elim (fun z => q1 z.1) (fun z => q4 z.2), fun _ => rfl⟩ ?_
            rw [qr_X12_readHedge_67, if_neg (nI_ge (by omega) (by omega)), if_neg (by decide), b1, if_pos q1, b1, if_neg (fun z => z q3), b2, if_neg q4, nc_li_v, nI_1]
        · refine st 1 (Or.inr rfl) ⟨fun _ z => z.elim (fun z => q1 z.1) (fun z => q3 z.1), fun _ => rfl⟩ ?_
          rw [qr_X12_readHedge_67, if_neg (nI_ge (by omega) (by omega)), if_neg (by decide), b1, if_pos q1, b1, if_pos q3, nc_li_v, nI_1]
abbrev hedW (w1 : nc_H) (h a g e : Nat) : nc_H := nc_si (nc_si (nc_si (nc_si w1 244 1 h (nI a)) 245 1 h (nI g)) 246 1 h (nI e)) 2 1 4 (nI (h + 1))
abbrev hedV (v1 : nc_H) (h a g e : Nat) : nc_H := nc_si (nc_si (nc_si (nc_si v1 875 0 (58 + h) (nI a)) 875 0 (64 + h) (nI g)) 875 0 (70 + h) (nI e)) 875 0 3 (nI (h + 1))
theorem DD_hedge {a g e : Nat} {w1 v1 : nc_H} (hD : DD w1 v1 f C N h) (ha : a < f) (hg : g < f) (hag : a ≠ g) (he1 : 1 ≤ e) (he : e ≤ 9) (hno : ∀ k, k < h → ¬ pq (v1.1 875 0) (nI a) (nI g) k) : DD (hedW w1 h a g e) (hedV v1 h a g e) f C N (h + 1) := by
  obtain ⟨⟨s, h1, h2, h3, h4⟩, ⟨x1, x2, x3⟩, k, d4, d5, d6⟩ := hD
  have hf : f ≤ 4 := s.2.2.2.2.1
  have hC : C ≤ 8 := s.2.2.2.2.2.1
  have hN : N ≤ 10 := s.2.2.2.2.2.2.1
  obtain ⟨h6, pn⟩ := PP_new (S' := (hedV v1 h a g e).1 875 0) d4 (show a < 4 by omega) (show g < 4 by omega) hag hno
  have a3 : (hedV v1 h a g e).1 875 0 3 = nI (h + 1) := si_s
  have a70 : (hedV v1 h a g e).1 875 0 (70 + h) = nI e := by
    rw [si_k (by omega), si_s]
  have a64 : (hedV v1 h a g e).1 875 0 (64 + h) = nI g := by
    rw [si_k (by omega), si_k (by omega), si_s]
  have a58 : (hedV v1 h a g e).1 875 0 (58 + h) = nI a := by
    rw [si_k (by omega), si_k (by omega), si_k (by omega), si_s]
  have u : ∀ j, j ≠ 3 → j ≠ 58 + h → j ≠ 64 + h → j ≠ 70 + h → (hedV v1 h a g e).1 875 0 j = v1.1 875 0 j := by
    intro j j1 j2 j3 j4
    rw [si_k j1, si_k j4, si_k j3, si_k j2]
  have m12 : (hedV v1 h a g e).1 12 0 = v1.1 12 0 := by
    rw [si_t (by decide), si_t (by decide), si_t (by decide), si_t (by decide)]
  have e2 : ∀ j, (hedW w1 h a g e).1 2 1 j = if j = 4 then nI (h + 1) else w1.1 2 1 j := by
    intro j
    by_cases q : j = 4
    · rw [if_pos q, q, si_s]
    · rw [if_neg q, si_k q, si_t (by decide), si_t (by decide), si_t (by decide)]
  have e244 : ∀ j, (hedW w1 h a g e).1 244 1 j = if j = h then nI a else w1.1 244 1 j := by
    intro j
    rw [si_t (by decide), si_t (by decide), si_t (by decide)]
    by_cases q : j = h
    · rw [if_pos q, q, si_s]
    · rw [if_neg q, si_k q]
  have e245 : ∀ j, (hedW w1 h a g e).1 245 1 j = if j = h then nI g else w1.1 245 1 j := by
    intro j
    rw [si_t (by decide), si_t (by decide)]
    by_cases q : j = h
    · rw [if_pos q, q, si_s]
    · rw [if_neg q, si_k q, si_t (by decide)]
  have e246 : ∀ j, (hedW w1 h a g e).1 246 1 j = if j = h then nI e else w1.1 246 1 j := by
    intro j
    rw [si_t (by decide)]
    by_cases q : j = h
    · rw [if_pos q, q, si_s]
    · rw [if_neg q, si_k q, si_t (by decide), si_t (by decide)]
  have er : ∀ t, t ≠ 2 → ¬ (244 ≤ t ∧ t ≤ 246) → (hedW w1 h a g e).1 t = w1.1 t := by
    intro t t1 t2
    rw [si_t t1, si_t (by omega), si_t (by omega), si_t (by omega)]
  have x3' : nmOK ((hedW w1 h a g e).2 236 1) (fun k => (hedV v1 h a g e).2 877 0 (22 + k)) f C N := x3
  unfold DD
  generalize hedW w1 h a g e = W at e2 e244 e245 e246 er x3'
  generalize hedV v1 h a g e = V at a3 a70 a64 a58 u m12 pn x3'
  obtain ⟨k1, k2, k3, k4, k5, k6, k7, k8, k9⟩ := k
  generalize V.1 875 0 = H' at a3 a70 a64 a58 u pn
  have uu : ∀ j, j ≠ 3 → j < 58 → H' j = v1.1 875 0 j := fun j hj hj2 => u j hj (by omega) (by omega) (by omega)
  have uh : ∀ m, m < h → H' (58 + m) = v1.1 875 0 (58 + m) ∧ H' (64 + m) = v1.1 875 0 (64 + m) ∧ H' (70 + m) = v1.1 875 0 (70 + m) := fun m hm => ⟨u _ (by omega) (by omega) (by omega) (by omega), u _ (by omega) (by omega) (by omega) (by omega), u _ (by omega) (by omega) (by omega) (by omega)⟩
  have s' : shp H' f C N (h + 1) := ⟨(uu 0 (by omega) (by omega)).trans s.1, (uu 1 (by omega) (by omega)).trans s.2.1, (uu 2 (by omega) (by omega)).trans s.2.2.1, a3, hf, hC, hN, by omega⟩
  refine ⟨⟨s', ⟨?_, ?_, ?_, ?_, ?_, ?_⟩, fun c hc => ?_, fun m hm => ?_, fun m hm => ?_⟩, ⟨fun g' hg' => ?_, ?_, x3'⟩, ⟨s', fun m hm => ?_, fun c hc => ?_, fun c hc => ?_, fun m hm => ?_, fun c hc => ?_, fun m hm => ?_, ?_, ?_⟩, pn (fun k hk => ⟨(uh k hk).1, (uh k hk).2.1⟩) a58 a64, ?_, ?_⟩
  · rw [e2, if_neg (by decide)]; exact h1.1
  · rw [e2, if_neg (by decide)]; exact h1.2.1
  · rw [e2, if_neg (by decide)]; exact h1.2.2.1
  · rw [e2, if_pos rfl]
  · rw [e2, if_neg (by decide), uu 4 (by omega) (by omega)]; exact h1.2.2.2.2.1
  · rw [e2, if_neg (by decide), uu 57 (by omega) (by omega)]; exact h1.2.2.2.2.2
  · rw [er 238 (by decide) (by omega), er 239 (by decide) (by omega), er 240 (by decide) (by omega), er 241 (by decide) (by omega), uu _ (by omega) (by omega), uu _ (by omega) (by omega), uu _ (by omega) (by omega), uu _ (by omega) (by omega)]
    exact h2 c hc
  · rw [er 242 (by decide) (by omega), er 243 (by decide) (by omega), uu _ (by omega) (by omega), uu _ (by omega) (by omega)]
    exact h3 m hm
  · rw [e244, e245, e246]
    by_cases q : m = h
    · rw [if_pos q, if_pos q, if_pos q, q]
      exact ⟨a58.symm, a64.symm, a70.symm⟩
    · have hm' : m < h := by omega
      rw [if_neg q, if_neg q, if_neg q, (uh m hm').1, (uh m hm').2.1, (uh m hm').2.2]
      exact h4 m hm'
  · rw [er 237 (by decide) (by omega), x1 g' hg']
    unfold cof
    exact it_cong (n := C) (fun j z hj => by rw [uu (5 + j) (by omega) (by omega)]) C 0 0 (by omega)
  · rw [e2, if_neg (by decide), x2]
    unfold wbs
    exact it_cong (n := N) (fun j z hj => by rw [uu (37 + j) (by omega) (by omega)]) N 0 0 (by omega)
  · rw [uu _ (by omega) (by omega)]; exact k2 m hm
  · obtain ⟨g', g1, g2⟩ := k3 c hc
    exact ⟨g', g1, by rw [uu _ (by omega) (by omega)]; exact g2⟩
  · obtain ⟨g', g1, g2⟩ := k4 c hc
    exact ⟨g', g1, by rw [uu _ (by omega) (by omega)]; exact g2⟩
  · by_cases q : m = h
    · exact ⟨a, g, e, ha, hg, hag, he1, he, by rw [q]; exact a58, by rw [q]; exact a64, by rw [q]; exact a70⟩
    · have hm' : m < h := by omega
      obtain ⟨x, y, e, g1, g2, g3, g4, g5, g6, g7, g8⟩ := k5 m hm'
      exact ⟨x, y, e, g1, g2, g3, g4, g5, by rw [(uh m hm').1]; exact g6, by rw [(uh m hm').2.1]; exact g7, by rw [(uh m hm').2.2]; exact g8⟩
  · obtain ⟨g', g1, g2⟩ := k6 c hc
    exact ⟨g', g1, by rw [uu _ (by omega) (by omega)]; exact g2⟩
  · obtain ⟨g', g1, g2⟩ := k7 m hm
    exact ⟨g', g1, by rw [uu _ (by omega) (by omega)]; exact g2⟩
  · rw [uu 57 (by omega) (by omega)]; exact k8
  · rw [uu 4 (by omega) (by omega)]; exact k9
  · rw [er 3 (by decide) (by omega), m12]
    exact d5
  · rw [e2, if_neg (by decide), m12]
    exact d6
end LH
