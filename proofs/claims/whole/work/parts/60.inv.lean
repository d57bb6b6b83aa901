/-! WHAT HOLDS BETWEEN CALLS. -/
/-- a word's letters, packed by 5 and by 8 bits -/
def enc5 (l : List Nat) : Int64 := l.foldl (fun x b => (x <<< 5) ||| Int64.ofNat (b % 32)) 0
def enc8 (l : List Nat) : Int64 := l.foldl (fun x b => (x <<< 8) ||| Int64.ofNat b) 0
def R58 (x y : Int64) : Prop := ∃ l : List Nat, 1 ≤ l.length ∧ l.length ≤ 7 ∧ (∀ b, b ∈ l → 97 ≤ b ∧ b ≤ 122) ∧ x = enc5 l ∧ y = enc8 l
/-- places of names that are told -/
def usd (f C N k : Nat) : Prop := k < f ∨ (4 ≤ k ∧ k < 4 + C) ∨ (12 ≤ k ∧ k < 12 + N)
def nmOK (X Y : Nat → Int64) (f C N : Nat) : Prop := (∀ k, usd f C N k → R58 (X k) (Y k)) ∧ (∀ k, k < 22 → ¬ usd f C N k → X k = 0) ∧ (∀ j k, usd f C N j → usd f C N k → X j = X k → j = k)
/-- the wars among news, as bits -/
def wbs (S : Nat → Int32) (N : Nat) : Int32 := it (fun n (x : Int32) => x ||| (if S (37 + n) = 2 then bs n else 0)) 0 N 0
def DX (w : nc_H) (dn : Nat) (S : Nat → Int32) (Y : Nat → Int64) (f C N : Nat) : Prop := (∀ g, g < 4 → w.1 237 dn g = cof S C (nI g)) ∧ w.1 2 dn 7 = wbs S N ∧ nmOK (w.2 236 dn) Y f C N
/-- one step of a sentence, of both -/
def codeR (st sg ar a b c : Int32) (N : Nat) : Prop := (a = 20 ∧ st = 14) ∨ (a = 21 ∧ st = 13) ∨ (a = 22 ∧ st = 12) ∨ ∃ k, k < 9 ∧ a = nI k ∧ st = nI (15 + k) ∧ (k = 2 → ar = c) ∧ (k = 3 ∨ k = 4 → ar = c ∧ ∃ n, n < N ∧ c = nI n) ∧ (5 ≤ k → sg = b ∧ ar = c ∧ (b = 60 ∨ b = 61 ∨ b = 62))
/-- how many truths wait, ahead and behind -/
def stp (a : Int32) (d d' : Nat) : Prop := (a = 20 ∧ 1 ≤ d ∧ d' = d) ∨ ((a = 21 ∨ a = 22) ∧ 2 ≤ d ∧ d' + 1 = d) ∨ (a ≠ 20 ∧ a ≠ 21 ∧ a ≠ 22 ∧ d' = d + 1)
def SR (w : nc_H) (sn : Nat) (S : Nat → Int32) (N : Nat) : Prop := ∃ (m o : Nat) (dep : Nat → Nat), m ≤ 39 ∧ o ≤ 20 ∧ (o = 0 ↔ m = 0) ∧ S 332 = nI m ∧ w.1 9 sn 3 = nI m ∧ w.1 9 sn 4 = nI o ∧ dep 0 = 0 ∧ (m ≠ 0 → dep m = 1) ∧ (∀ i, i ≤ m → dep i ≤ 20) ∧
  ∀ i, i < m → codeR (w.1 676 sn i) (w.1 677 sn i) (w.1 678 sn i) (S (333 + 3 * i)) (S (334 + 3 * i)) (S (335 + 3 * i)) N ∧ stp (S (333 + 3 * i)) (dep i) (dep (i + 1))
/-- dairy dn, Life ln and sentence sn are what S says -/
def ST (w : nc_H) (dn ln sn : Nat) (S : Nat → Int32) (Y : Nat → Int64) (f C N h d : Nat) : Prop := dok S f C N h ∧ lok S C N d ∧ DR w dn S f C N h ∧ DX w dn S Y f C N ∧ LR w ln S f C N ∧ SR w sn S N
/-- what was kept for undo -/
def HR (w : nc_H) (S : Nat → Int32) (f C N : Nat) : Prop := ∃ u nw, u ≤ 8 ∧ nw < 8 ∧ w.1 12 0 24 = nI u ∧ w.1 5 0 2 = nI u ∧ w.1 5 0 1 = nI nw ∧ ∀ j, j < u → LR w (2 + (nw + 8 - j) % 8) (mix S (w.1 890 0) (u - 1 - j)) f C N ∧ ∃ d, lok (mix S (w.1 890 0) (u - 1 - j)) C N d
/-- images -/
def IM (w : nc_H) : Prop := ∀ k, k < 2 → (w.1 6 k 0 = 0 ∧ w.1 916 0 k = 0) ∨ (w.1 6 k 0 = 1 ∧ w.1 916 0 k = 1 ∧ ∃ f C N h d, ST w (2 + k) (12 + k) (2 + k) (fun j => w.1 914 0 (513 * k + j)) (fun j => w.2 915 0 (22 * k + j)) f C N h d)
/-- the state now, with what was kept -/
def NW (w : nc_H) (f C N h d : Nat) : Prop := ST w 0 0 0 (w.1 874 0) (w.2 877 0) f C N h d ∧ HR w (w.1 874 0) f C N
def sD (t a : Nat) : Prop := (t = 2 ∨ (236 ≤ t ∧ t ≤ 246)) ∧ (a = 0 ∨ a = 2 ∨ a = 3)
def sL (t a : Nat) : Prop := (t = 7 ∨ (553 ≤ t ∧ t ≤ 562)) ∧ (a = 0 ∨ (2 ≤ a ∧ a ≤ 9) ∨ a = 12 ∨ a = 13)
def sS (t a : Nat) : Prop := (t = 9 ∨ (676 ≤ t ∧ t ≤ 678)) ∧ (a = 0 ∨ a = 2 ∨ a = 3)
def sM (t a : Nat) : Prop := (a = 0 ∧ (t = 5 ∨ t = 874 ∨ t = 877 ∨ t = 890 ∨ t = 914 ∨ t = 915 ∨ t = 916)) ∨ (t = 6 ∧ a < 2)
section FR
variable {w w' : nc_H} {dn ln sn f C N h d : Nat} {S : Nat → Int32} {Y : Nat → Int64}
theorem DX_eq (hX : DX w dn S Y f C N) (h1 : w'.1 237 dn = w.1 237 dn) (h2 : w'.1 2 dn = w.1 2 dn) (h3 : w'.2 236 dn = w.2 236 dn) : DX w' dn S Y f C N := by
  unfold DX
  rw [h1, h2, h3]
  exact hX
theorem SR_eq (hX : SR w sn S N) (h9 : w'.1 9 sn = w.1 9 sn) (h6 : w'.1 676 sn = w.1 676 sn) (h7 : w'.1 677 sn = w.1 677 sn) (h8 : w'.1 678 sn = w.1 678 sn) : SR w' sn S N := by
  unfold SR
  rw [h9, h6, h7, h8]
  exact hX
theorem ST_eq (hX : ST w dn ln sn S Y f C N h d) (hd : ∀ t, t = 2 ∨ (236 ≤ t ∧ t ≤ 246) → w'.1 t dn = w.1 t dn) (hd2 : w'.2 236 dn = w.2 236 dn) (hl : ∀ t, t = 7 ∨ (553 ≤ t ∧ t ≤ 562) → w'.1 t ln = w.1 t ln) (hs : ∀ t, t = 9 ∨ (676 ≤ t ∧ t ≤ 678) → w'.1 t sn = w.1 t sn) : ST w' dn ln sn S Y f C N h d := by
  obtain ⟨x1, x2, x3, x4, x5, x6⟩ := hX
  exact ⟨x1, x2, DR_eq x3 (fun t ht => hd t (by omega)) (fun _ _ => rfl), DX_eq x4 (hd 237 (by omega)) (hd 2 (by omega)) hd2, LR_eq x5 hl, SR_eq x6 (hs 9 (by omega)) (hs 676 (by omega)) (hs 677 (by omega)) (hs 678 (by omega))⟩
theorem HR_eq (hX : HR w S f C N) (h12 : w'.1 12 0 24 = w.1 12 0 24) (h5 : w'.1 5 0 = w.1 5 0) (h8 : w'.1 890 0 = w.1 890 0) (hl : ∀ t a, t = 7 ∨ (553 ≤ t ∧ t ≤ 562) → 2 ≤ a → a ≤ 9 → w'.1 t a = w.1 t a) : HR w' S f C N := by
  obtain ⟨u, nw, x1, x2, x3, x4, x5, x6⟩ := hX
  refine ⟨u, nw, x1, x2, by rw [h12]; exact x3, by rw [h5]; exact x4, by rw [h5]; exact x5, fun j hj => ?_⟩
  rw [h8]
  exact ⟨LR_eq (x6 j hj).1 (fun t ht => hl t _ ht (by omega) (by omega)), (x6 j hj).2⟩
theorem IM_eq (hX : IM w) (h6 : ∀ k, k < 2 → w'.1 6 k = w.1 6 k) (h914 : w'.1 914 0 = w.1 914 0) (h915 : w'.2 915 0 = w.2 915 0) (h916 : w'.1 916 0 = w.1 916 0) (hd : ∀ t a, t = 2 ∨ (236 ≤ t ∧ t ≤ 246) → a = 2 ∨ a = 3 → w'.1 t a = w.1 t a) (hd2 : ∀ a, a = 2 ∨ a = 3 → w'.2 236 a = w.2 236 a) (hl : ∀ t a, t = 7 ∨ (553 ≤ t ∧ t ≤ 562) → a = 12 ∨ a = 13 → w'.1 t a = w.1 t a) (hs : ∀ t a, t = 9 ∨ (676 ≤ t ∧ t ≤ 678) → a = 2 ∨ a = 3 → w'.1 t a = w.1 t a) : IM w' := by
  intro k hk
  rw [h6 k hk, h914, h915, h916]
  rcases hX k hk with q | ⟨q1, q2, f, C, N, h, d, q3⟩
  · exact Or.inl q
  · exact Or.inr ⟨q1, q2, f, C, N, h, d, ST_eq q3 (fun t ht => hd t _ ht (by omega)) (hd2 _ (by omega)) (fun t ht => hl t _ ht (by omega)) (fun t ht => hs t _ ht (by omega))⟩
theorem IM_fr (hX : IM w) (h1 : ∀ t a, sD t a ∨ sL t a ∨ sS t a ∨ sM t a → a ≠ 0 ∨ 914 ≤ t ∨ t = 6 → w'.1 t a = w.1 t a) (h2 : ∀ t a, sD t a ∨ sM t a → a ≠ 0 ∨ t = 915 → w'.2 t a = w.2 t a) : IM w' := by
  refine IM_eq hX (fun k hk => h1 6 k (Or.inr (Or.inr (Or.inr (Or.inr ⟨rfl, hk⟩)))) (by omega)) (h1 914 0 (Or.inr (Or.inr (Or.inr (Or.inl ⟨rfl, by omega⟩)))) (by omega)) (h2 915 0 (Or.inr (Or.inl ⟨rfl, by omega⟩)) (by omega)) (h1 916 0 (Or.inr (Or.inr (Or.inr (Or.inl ⟨rfl, by omega⟩)))) (by omega)) (fun t a ht ha => h1 t a (Or.inl ⟨ht, by omega⟩) (by omega)) (fun a ha => h2 236 a (Or.inl ⟨by omega, by omega⟩) (by omega)) (fun t a ht ha => h1 t a (Or.inr (Or.inl ⟨ht, by omega⟩)) (by omega)) (fun t a ht ha => h1 t a (Or.inr (Or.inr (Or.inl ⟨ht, by omega⟩))) (by omega))
theorem NW_fr (hX : NW w f C N h d) (h1 : ∀ t a, sD t a ∨ sL t a ∨ sS t a ∨ sM t a → w'.1 t a = w.1 t a) (h2 : ∀ t a, sD t a ∨ sM t a → w'.2 t a = w.2 t a) (h3 : w'.1 12 0 24 = w.1 12 0 24) : NW w' f C N h d := by
  have m : ∀ t, t = 5 ∨ t = 874 ∨ t = 877 ∨ t = 890 ∨ t = 914 ∨ t = 915 ∨ t = 916 → w'.1 t 0 = w.1 t 0 := fun t ht => h1 t 0 (Or.inr (Or.inr (Or.inr (Or.inl ⟨rfl, ht⟩))))
  unfold NW
  rw [m 874 (by omega), h2 877 0 (Or.inr (Or.inl ⟨rfl, by omega⟩))]
  exact ⟨ST_eq hX.1 (fun t ht => h1 t 0 (Or.inl ⟨ht, by omega⟩)) (h2 236 0 (Or.inl ⟨by omega, by omega⟩)) (fun t ht => h1 t 0 (Or.inr (Or.inl ⟨ht, by omega⟩))) (fun t ht => h1 t 0 (Or.inr (Or.inr (Or.inl ⟨ht, by omega⟩)))), HR_eq hX.2 h3 (m 5 (by omega)) (m 890 (by omega)) (fun t a ht h2 h9 => h1 t a (Or.inr (Or.inl ⟨ht, by omega⟩)))⟩
end FR
/-! small things -/
def CH (w : nc_H) : Prop := ((w.1 12 0 26 = 0 ∧ w.1 1 0 8 = -1) ∨ (w.1 12 0 26 = 1 ∧ w.1 1 0 8 = w.1 12 0 25)) ∧ ((w.1 12 0 33 = 0 ∧ w.1 1 0 9 = -1 ∧ w.1 1 0 10 = -1) ∨ (w.1 12 0 33 = 1 ∧ w.1 1 0 9 = w.1 12 0 31 ∧ w.1 1 0 10 = w.1 12 0 32))
def PL (w : nc_H) : Prop := (w.1 8 0 5 = 0 ∧ w.1 12 0 28 = -1) ∨ ∃ n, 1 ≤ n ∧ n ≤ 3 ∧ w.1 8 0 5 = nI n ∧ w.1 12 0 28 = nI n ∧ ∀ k, k < n → w.1 616 0 k = w.1 895 0 k
def PT (w : nc_H) : Prop := (w.1 12 0 30 = 0 ∧ w.1 11 0 15 = -1) ∨ (w.1 12 0 30 = 1 ∧ w.1 11 0 15 = w.1 12 0 29)
def TP (w : nc_H) : Prop := (∃ l, l ≤ 940 ∧ w.1 10 0 1 = nI l ∧ w.1 12 0 2 = nI l) ∧ (∀ k, k < 940 → w.1 740 0 k = w.1 869 0 k) ∧ w.1 10 0 14 = w.1 12 0 15
def BK (w : nc_H) : Prop := (w.1 0 0 4 = 0 ∧ w.1 12 0 38 = 0) ∨ (w.1 0 0 4 = 1 ∧ w.1 12 0 38 = 1 ∧ w.1 0 0 5 = w.1 905 0 0 ∧ w.1 0 0 6 = w.1 905 0 1 ∧ w.1 0 0 7 = w.1 905 0 2 ∧ w.1 0 0 8 = w.1 905 0 3)
