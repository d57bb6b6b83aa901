/-! BASE of the mathematics: truths as ints, indices, loops. -/
def tI (p : Prop) [Decidable p] : Int32 := if p then 1 else 0
theorem tI_t {p : Prop} [Decidable p] (h : p) : tI p = 1 := if_pos h
theorem tI_f {p : Prop} [Decidable p] (h : ¬ p) : tI p = 0 := if_neg h
theorem tI_ne {p : Prop} [Decidable p] : tI p ≠ 0 ↔ p := by
  unfold tI
  by_cases h : p
  · rw [if_pos h]; exact ⟨fun _ => h, fun _ => by decide⟩
  · rw [if_neg h]; exact ⟨fun q => absurd rfl q, fun q => absurd q h⟩
theorem tI_eq0 {p : Prop} [Decidable p] : tI p = 0 ↔ ¬ p := by
  unfold tI
  by_cases h : p
  · rw [if_pos h]; exact ⟨fun q => absurd q (by decide), fun q => absurd h q⟩
  · rw [if_neg h]; exact ⟨fun _ => h, fun _ => rfl⟩
theorem tI_eq1 {p : Prop} [Decidable p] : tI p = 1 ↔ p := by
  unfold tI
  by_cases h : p
  · rw [if_pos h]; exact ⟨fun _ => h, fun _ => rfl⟩
  · rw [if_neg h]; exact ⟨fun q => absurd q (by decide), fun q => absurd q h⟩
theorem tI_01 {p : Prop} [Decidable p] : tI p = 0 ∨ tI p = 1 := by
  by_cases h : p
  · exact Or.inr (tI_t h)
  · exact Or.inl (tI_f h)
theorem tI_c {p q : Prop} [Decidable p] [Decidable q] (h : p ↔ q) : tI p = tI q := by
  by_cases hp : p
  · rw [tI_t hp, tI_t (h.mp hp)]
  · rw [tI_f hp, tI_f (fun x => hp (h.mpr x))]
theorem nc_z_tI {p : Prop} [Decidable p] {k : Option nc_R} : nc_z (tI p) k = k := if_pos tI_01
theorem nc_z_0 {k : Option nc_R} : nc_z 0 k = k := if_pos (Or.inl rfl)
theorem nc_z_1 {k : Option nc_R} : nc_z 1 k = k := if_pos (Or.inr rfl)
theorem nc_z_of {x : Int32} {k : Option nc_R} (h : x = 0 ∨ x = 1) : nc_z x k = k := if_pos h
theorem nc_bd_of {x : Int32} {n : Nat} {k : Nat → Option nc_R} (j : Nat) (hx : x = nI j) (hj : j < n) (hn : n < 2 ^ 31) : nc_bd x n k = k j := by
  subst hx
  unfold nc_bd
  rw [if_neg (nI_in hj hn), nI_clamp (by omega)]
theorem nc_bI_v {r : Int32} {w : nc_H} {k : Int32 → nc_H → Option nc_R} : nc_bI (some (some (.inl r), w)) k = k r w := rfl
theorem nc_bL_v {r : Int64} {w : nc_H} {k : Int64 → nc_H → Option nc_R} : nc_bL (some (some (.inr (.inl r)), w)) k = k r w := rfl
theorem nc_bV_v {w : nc_H} {k : nc_H → Option nc_R} : nc_bV (some (none, w)) k = k w := rfl
theorem nc_lt_v {w : nc_H} {k : nc_H → Option nc_R} : nc_lt w k = k w := rfl
theorem nc_li_v {x : Int32} {k : Int32 → Option nc_R} : nc_li x k = k x := rfl
theorem nc_ll_v {x : Int64} {k : Int64 → Option nc_R} : nc_ll x k = k x := rfl
/-! reading behind a write -/
theorem si_t {w : nc_H} {t a k : Nat} {x : Int32} {t' : Nat} (h : t' ≠ t) : (nc_si w t a k x).1 t' = w.1 t' := by
  funext a' k'
  show (if t' = t ∧ a' = a ∧ k' = k then x else _) = _
  rw [if_neg (fun q => h q.1)]
theorem si_a {w : nc_H} {t a k : Nat} {x : Int32} {t' a' : Nat} (h : a' ≠ a) : (nc_si w t a k x).1 t' a' = w.1 t' a' := by
  funext k'
  show (if t' = t ∧ a' = a ∧ k' = k then x else _) = _
  rw [if_neg (fun q => h q.2.1)]
theorem si_k {w : nc_H} {t a k : Nat} {x : Int32} {t' a' k' : Nat} (h : k' ≠ k) : (nc_si w t a k x).1 t' a' k' = w.1 t' a' k' := by
  show (if t' = t ∧ a' = a ∧ k' = k then x else _) = _
  rw [if_neg (fun q => h q.2.2)]
theorem si_s {w : nc_H} {t a k : Nat} {x : Int32} : (nc_si w t a k x).1 t a k = x := by
  show (if t = t ∧ a = a ∧ k = k then x else _) = _
  rw [if_pos ⟨rfl, rfl, rfl⟩]
theorem si_2 {w : nc_H} {t a k : Nat} {x : Int32} : (nc_si w t a k x).2 = w.2 := rfl
theorem si_row {w : nc_H} {t a k : Nat} {x : Int32} : (nc_si w t a k x).1 t a = upd (w.1 t a) k x := by
  funext k'
  show (if t = t ∧ a = a ∧ k' = k then x else _) = if k' = k then x else _
  simp
theorem sl_1 {w : nc_H} {t a k : Nat} {x : Int64} : (nc_sl w t a k x).1 = w.1 := rfl
theorem sl_t {w : nc_H} {t a k : Nat} {x : Int64} {t' : Nat} (h : t' ≠ t) : (nc_sl w t a k x).2 t' = w.2 t' := by
  funext a' k'
  show (if t' = t ∧ a' = a ∧ k' = k then x else _) = _
  rw [if_neg (fun q => h q.1)]
theorem sl_a {w : nc_H} {t a k : Nat} {x : Int64} {t' a' : Nat} (h : a' ≠ a) : (nc_sl w t a k x).2 t' a' = w.2 t' a' := by
  funext k'
  show (if t' = t ∧ a' = a ∧ k' = k then x else _) = _
  rw [if_neg (fun q => h q.2.1)]
theorem sl_k {w : nc_H} {t a k : Nat} {x : Int64} {t' a' k' : Nat} (h : k' ≠ k) : (nc_sl w t a k x).2 t' a' k' = w.2 t' a' k' := by
  show (if t' = t ∧ a' = a ∧ k' = k then x else _) = _
  rw [if_neg (fun q => h q.2.2)]
theorem sl_s {w : nc_H} {t a k : Nat} {x : Int64} : (nc_sl w t a k x).2 t a k = x := by
  show (if t = t ∧ a = a ∧ k = k then x else _) = _
  rw [if_pos ⟨rfl, rfl, rfl⟩]
/-! a loop over i .. n - 1: st is what one turn does, I what holds at its head -/
def it {α : Type} (st : Nat → α → α) : Nat → Nat → α → α
  | _, 0, a => a
  | i, k + 1, a => it st (i + 1) k (st i a)
theorem it_loop {α : Type} {R : Nat → α → Option nc_R} {st : Nat → α → α} {I : Nat → α → Prop} {n : Nat} {out : α → Option nc_R} (hs : ∀ i a, i < n → I i a → R i a = R (i + 1) (st i a) ∧ I (i + 1) (st i a)) (hn : ∀ a, I n a → R n a = out a) : ∀ (k i : Nat) (a : α), i + k = n → I i a → R i a = out (it st i k a)
  | 0, i, a, h, hI => by
    have e : i = n := by omega
    subst e
    exact hn a hI
  | k + 1, i, a, h, hI => by
    have h1 := hs i a (by omega) hI
    rw [h1.1]
    exact it_loop hs hn k (i + 1) (st i a) (by omega) h1.2
theorem it_inv {α : Type} {st : Nat → α → α} {I : Nat → α → Prop} {n : Nat} (hs : ∀ i a, i < n → I i a → I (i + 1) (st i a)) : ∀ (k i : Nat) (a : α), i + k = n → I i a → I n (it st i k a)
  | 0, i, a, h, hI => by
    have e : i = n := by omega
    subst e
    exact hI
  | k + 1, i, a, h, hI => it_inv hs k (i + 1) (st i a) (by omega) (hs i a (by omega) hI)
theorem it_cong {α : Type} {s1 s2 : Nat → α → α} {n : Nat} (h : ∀ i a, i < n → s1 i a = s2 i a) : ∀ (k i : Nat) (a : α), i + k = n → it s1 i k a = it s2 i k a
  | 0, _, _, _ => rfl
  | k + 1, i, a, e => by
    show it s1 (i + 1) k (s1 i a) = it s2 (i + 1) k (s2 i a)
    rw [h i a (by omega)]
    exact it_cong h k (i + 1) _ (by omega)
theorem it_succ {α : Type} {st : Nat → α → α} : ∀ (k i : Nat) (a : α), it st i (k + 1) a = st (i + k) (it st i k a)
  | 0, _, _ => rfl
  | k + 1, i, a => by
    show it st (i + 1) (k + 1) (st i a) = st (i + (k + 1)) (it st (i + 1) k (st i a))
    rw [it_succ k (i + 1) (st i a)]
    congr 1
    omega
/-! bits -/
theorem bq_0 (x n : Int32) : ((x >>> (n &&& 31)) &&& 1) ≠ 1 ↔ ((x >>> (n &&& 31)) &&& 1) = 0 := by
  have h : ∀ y : Int32, y &&& 1 = 0 ∨ y &&& 1 = 1 := by
    intro y
    have := pk_and y (m := 1) 1 (by decide)
    rw [this]
    rcases Nat.mod_two_eq_zero_or_one y.toBitVec.toNat with e | e
    · left
      rw [show 2 ^ 1 = 2 from rfl, e]
      rfl
    · right
      rw [show 2 ^ 1 = 2 from rfl, e]
      rfl
  rcases h (x >>> (n &&& 31)) with e | e
  · rw [e]; decide
  · rw [e]; decide
/-- bit n of x -/
abbrev bq (x n : Int32) : Prop := ((x >>> (n &&& 31)) &&& 1) = 1
