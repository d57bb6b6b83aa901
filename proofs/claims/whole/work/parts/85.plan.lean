/-! PLANS: what a day of one gives; bounds of milk; the tree of plans is the row of codes. -/
section PN
variable {S : Nat → Int32} {f C N h d c n : Nat}
theorem hos_tell (hC : C ≤ 8) (hc : c < C) (hn : n < N) (hN : N ≤ 10) {n' : Nat} : hos (tellS S c n) C c n' = hos S C c n' := by
  unfold hos
  refine it_cong (n := C) (fun o x ho' => ?_) C 0 0 (by omega)
  have e : ho (tellS S c n) c n' o ↔ ho S c n' o := by
    show (o ≠ c ∧ tellS S c n (5 + o) = tellS S c n (5 + c) ∧ bq (tellS S c n (100 + o)) (nI n')) ↔ _
    rw [tellS_o (by omega) (by omega) (by omega), tellS_o (by omega) (by omega) (by omega), tellS_100 (by omega) (by omega) (by omega)]
    constructor
    · rintro ⟨q1, q2, q3⟩
      rw [if_neg q1] at q3
      exact ⟨q1, q2, q3⟩
    · rintro ⟨q1, q2, q3⟩
      rw [if_neg q1]
      exact ⟨q1, q2, q3⟩
  rw [tI_c e]
theorem mst_tell (hC : C ≤ 8) (hc : c < C) (hn : n < N) (hN : N ≤ 10) {H T : Int32} {n' : Nat} (hn' : n' < N) {x : Int32} : mst (tellS S c n) C c H T n' x = mst S C c H T n' x := by
  have o1 : ∀ k, k < 99 ∨ (116 ≤ k ∧ k < 124) → tellS S c n k = S k := fun k hk => tellS_o (by omega) (by omega) (by omega)
  unfold mst mwe mv mv0
  rw [o1 (37 + n') (by omega), o1 (116 + c) (by omega), o1 57 (by omega), o1 (47 + n') (by omega), o1 78 (by omega), hos_tell hC hc hn hN]
theorem mwi_tell (hd : dOK S) (hC : C ≤ 8) (hc : c < C) (hn : n < N) (hN : N ≤ 10) : mwi (tellS S c n) C N c 0 = mwi S C N c (bs n) := by
  have o1 : ∀ k, k < 99 ∨ (116 ≤ k ∧ k < 124) → tellS S c n k = S k := fun k hk => tellS_o (by omega) (by omega) (by omega)
  rw [mwi_0 hN]
  unfold mwi mby
  have e1 : tellS S c n (100 + c) = S (100 + c) ||| bs n := by rw [tellS_100 (by omega) (by omega) (by omega), if_pos rfl]
  have e2 : tellS S c n (108 + c) = S (108 + c) ||| (bs n &&& kns S N c) := by
    rw [tellS_108 (by omega) (by omega) (by omega), show bs n &&& kns S N c = kns S N c &&& bs n from by
      refine bq_ext (fun i hi => ?_)
      rw [bq_and hi, bq_and hi]
      exact ⟨fun q => ⟨q.2, q.1⟩, fun q => ⟨q.2, q.1⟩⟩, kns_bs hN hn]
    by_cases q : kn S c n
    · rw [if_pos ⟨rfl, q⟩, if_pos q]
    · rw [if_neg (fun z => q z.2), if_neg q, or_0]
  have e3 : cu (tellS S c n) c ↔ cu S c ∨ S (37 + n) = 2 := by
    show (¬ tellS S c n (124 + c) ≤ 0 ∧ ¬ (6 : Int32) < tellS S c n 76 - (tellS S c n (124 + c) - 1)) ↔ _
    rw [tellS_124 (by omega) (by omega) (by omega), o1 76 (by omega)]
    by_cases q : S (37 + n) = 2
    · rw [if_pos ⟨rfl, q⟩]
      obtain ⟨dd, d1, d2⟩ := hd
      refine ⟨fun _ => Or.inr q, fun _ => ?_⟩
      rw [d2, nI_1, nI_pred, pk_sub (Nat.le_refl _), Nat.sub_self]
      exact ⟨nI_nle (by omega) (by omega), by decide⟩
    · rw [if_neg (fun z => q z.2)]
      exact ⟨Or.inl, fun z => z.elim id (fun y => absurd y q)⟩
  have e4 : war S N (bs n) ↔ S (37 + n) = 2 := by
    constructor
    · rintro ⟨i, i1, i2, i3⟩
      rw [bq_bs (by omega) (by omega)] at i2
      subst i2
      exact i3
    · intro q
      exact ⟨n, hn, (bq_bs (by omega) (by omega)).mpr rfl, q⟩
  rw [e1, e2, o1 77 (by omega), o1 (13 + c) (by omega), it_cong (s2 := mst S C c (S (100 + c) ||| bs n) (S (108 + c) ||| (bs n &&& kns S N c))) (n := N) (fun i x hi => mst_tell hC hc hn hN hi) N 0 _ (by omega)]
  by_cases q : bq (S 77) (nI c) ∨ cu S c ∨ S (37 + n) = 2
  · rw [if_pos (q.elim Or.inl (fun z => Or.inr (e3.mpr z))), if_pos (q.elim Or.inl (fun z => Or.inr (z.elim Or.inl (fun y => Or.inr (e4.mpr y)))))]
  · rw [if_neg (fun z => q (z.elim Or.inl (fun y => Or.inr (e3.mp y)))), if_neg (fun z => q (z.elim Or.inl (fun y => Or.inr (y.elim Or.inl (fun u => Or.inr (e4.mp u))))))]
/-! bounds -/
theorem i32_add {a b : Int32} (h1 : -1000000 ≤ a.toInt) (h2 : a.toInt ≤ 1000000) (h3 : -1000000 ≤ b.toInt) (h4 : b.toInt ≤ 1000000) : (a + b).toInt = a.toInt + b.toInt := by
  rw [Int32.toInt_add, Int.bmod_def]
  split <;> omega
theorem i32_neg {a : Int32} (h1 : 0 ≤ a.toInt) (h2 : a.toInt ≤ 1000000) : (-a).toInt = -a.toInt := by
  rw [Int32.toInt_neg, Int.bmod_def]
  split <;> omega
theorem mv_nI (hk : dok S f C N h) (hn : n < N) : ∃ v, v ≤ 50 ∧ mv S C c n = nI v := by
  obtain ⟨v, v1, v2⟩ := hk.2.2.2.2.2.2.1 n hn
  have e0 : ∃ u, u ≤ 25 ∧ mv0 S n = nI u := by
    unfold mv0
    rw [v2]
    split
    · exact ⟨v + 5, by omega, by rw [show (5 : Int32) = nI 5 from rfl, nI_add]⟩
    · exact ⟨v, by omega, Int32.add_zero _⟩
  obtain ⟨u, u1, u2⟩ := e0
  unfold mv
  rw [u2]
  split
  · exact ⟨u * 2, by omega, by rw [show (2 : Int32) = nI 2 from rfl, pk_mul]⟩
  · exact ⟨u, by omega, rfl⟩
theorem mst_bd (hk : dok S f C N h) (hn : n < N) {H T x : Int32} {i : Nat} (hi : i ≤ 10) (h1 : -(70 * (i : Int)) ≤ x.toInt) (h2 : x.toInt ≤ 40 + 70 * (i : Int)) : -(70 * ((i + 1 : Nat) : Int)) ≤ (mst S C c H T n x).toInt ∧ (mst S C c H T n x).toInt ≤ 40 + 70 * ((i + 1 : Nat) : Int) := by
  obtain ⟨v, v1, v2⟩ := mv_nI (c := c) hk hn
  obtain ⟨u, u1, u2⟩ := hk.2.2.2.2.2.2.1 n hn
  have a : ∃ y : Int32, (mst S C c H T n x = mwe S c n y) ∧ -(70 * (i : Int)) ≤ y.toInt ∧ y.toInt ≤ 40 + 70 * (i : Int) + 50 := by
    unfold mst
    refine ⟨_, rfl, ?_⟩
    rw [v2]
    split
    · split
      · rw [show (2 : Int32) = nI 2 from rfl, pk_div (by omega) (by omega) (by omega)]
        have t := nI_toInt (n := v / 2) (by omega)
        rw [i32_add (by omega) (by omega) (by omega) (by omega), t]
        omega
      · have t := nI_toInt (n := v) (by omega)
        rw [i32_add (by omega) (by omega) (by omega) (by omega), t]
        omega
    · omega
  obtain ⟨y, y0, y1, y2⟩ := a
  rw [y0]
  have t := nI_toInt (n := u) (by omega)
  unfold mwe
  rw [u2]
  split
  · split
    · have t2 := i32_neg (a := nI u) (by omega) (by omega)
      rw [i32_add (by omega) (by omega) (by omega) (by omega), t2, t]
      omega
    · rw [i32_add (by omega) (by omega) (by omega) (by omega), t]
      omega
  · omega
theorem mwi_bd (hk : dok S f C N h) (hc : c < C) {x : Int32} : 0 ≤ (mwi S C N c x).toInt ∧ (mwi S C N c x).toInt ≤ 1000 := by
  have hN : N ≤ 10 := hk.1.2.2.2.2.2.2.1
  have h0 : (0 : Int32).toInt = 0 := by decide
  obtain ⟨v, v1, v2⟩ := hk.2.2.2.2.2.1 c hc
  have t := nI_toInt (n := v) (by omega)
  unfold mwi mby
  split
  · rw [h0]
    omega
  · have b := it_inv (st := mst S C c (S (100 + c) ||| x) (S (108 + c) ||| (x &&& kns S N c))) (I := fun i y => -(70 * (i : Int)) ≤ y.toInt ∧ y.toInt ≤ 40 + 70 * (i : Int)) (n := N) (fun i y hi hy => mst_bd hk hi (by omega) hy.1 hy.2) N 0 (S (13 + c)) (by omega) (by rw [v2, t]; omega)
    unfold mx
    split
    · next q =>
      rw [Int32.le_iff_toInt_le, h0] at q
      omega
    · rw [h0]
      omega
/-! the tree of plans -/
/-- what a row of news, told as a number, gives -/
def pl (f C N h c : Nat) : Nat → (Nat → Int32) → Nat → Nat → Int32 → Option Int32
  | 0, _, _, _, sum => some sum
  | r + 1, S, d, code, sum =>
    if code / (N + 1) ^ r = N then pl f C N h c r (dayS S d f C N h) (d + 1) (code % (N + 1) ^ r) (sum + mwi S C N c 0)
    else if wyt S c (code / (N + 1) ^ r) = 0 then pl f C N h c r (dayS (tellS S c (code / (N + 1) ^ r)) d f C N h) (d + 1) (code % (N + 1) ^ r) (sum + mwi (tellS S c (code / (N + 1) ^ r)) C N c 0)
    else none
abbrev PS : Type := Int32 × Option Nat
def wgh (s : Int32) (code : Nat) (st : PS) : PS := if st.1 < s then (s, some code) else st
def wgo (s : Option Int32) (code : Nat) (st : PS) : PS := match s with
  | none => st
  | some s => wgh s code st
def gR (f C N h c : Nat) : Nat → (Nat → Int32) → Nat → Int32 → Nat → PS → PS
  | 0, _, _, sum, p, st => wgh sum p st
  | r + 1, S, d, sum, p, st => it (fun n st => if n = N then gR f C N h c r (dayS S d f C N h) (d + 1) (sum + mwi S C N c 0) (p * (N + 1) + n) st else if wyt S c n = 0 then gR f C N h c r (dayS (tellS S c n) d f C N h) (d + 1) (sum + mwi (tellS S c n) C N c 0) (p * (N + 1) + n) st else st) 0 (N + 1) st
theorem it_mul {α : Type} {st : Nat → α → α} (m : Nat) : ∀ (B i : Nat) (a : α), it st (i * m) (B * m) a = it (fun n a => it (fun j a => st (n * m + j) a) 0 m a) i B a
  | 0, i, a => by rw [Nat.zero_mul]; rfl
  | B + 1, i, a => by
    rw [Nat.add_mul, Nat.one_mul, Nat.add_comm, it_add]
    have e : ∀ (k j : Nat) (a : α), it st (i * m + j) k a = it (fun j a => st (i * m + j) a) j k a := by
      intro k
      induction k with
      | zero => intro _ _; rfl
      | succ k ih =>
        intro j a
        show it st (i * m + j + 1) k (st (i * m + j) a) = it (fun j a => st (i * m + j) a) (j + 1) k (st (i * m + j) a)
        rw [Nat.add_assoc, ih]
    have e2 := e m 0 a
    rw [Nat.add_zero] at e2
    rw [e2, show i * m + m = (i + 1) * m by rw [Nat.add_mul, Nat.one_mul], it_mul m B (i + 1)]
    rfl
theorem gR_pl : ∀ (r : Nat) (S : Nat → Int32) (d : Nat) (sum : Int32) (p : Nat) (st : PS), gR f C N h c r S d sum p st = it (fun code st => wgo (pl f C N h c r S d code sum) (p * (N + 1) ^ r + code) st) 0 ((N + 1) ^ r) st
  | 0, S, d, sum, p, st => by
    show wgh sum p st = wgo (some sum) (p * 1 + 0) st
    rw [Nat.mul_one, Nat.add_zero]
    rfl
  | r + 1, S, d, sum, p, st => by
    have hp : 0 < (N + 1) ^ r := Nat.pow_pos (by omega)
    have m := it_mul (st := fun code st => wgo (pl f C N h c (r + 1) S d code sum) (p * (N + 1) ^ (r + 1) + code) st) ((N + 1) ^ r) (N + 1) 0 st
    rw [Nat.zero_mul] at m
    rw [show (N + 1) ^ (r + 1) = (N + 1) * (N + 1) ^ r by rw [Nat.pow_succ, Nat.mul_comm]] at m ⊢
    rw [m]
    show it _ 0 (N + 1) st = _
    refine it_cong (n := N + 1) (fun n st hn => ?_) (N + 1) 0 st (by omega)
    have ec : ∀ j, j < (N + 1) ^ r → (n * (N + 1) ^ r + j) / (N + 1) ^ r = n ∧ (n * (N + 1) ^ r + j) % (N + 1) ^ r = j := fun j hj => by
      rw [Nat.mul_comm n, Nat.mul_add_div hp, Nat.div_eq_of_lt hj, Nat.mul_add_mod, Nat.mod_eq_of_lt hj]
      exact ⟨rfl, rfl⟩
    have ep : ∀ j, p * ((N + 1) * (N + 1) ^ r) + (n * (N + 1) ^ r + j) = (p * (N + 1) + n) * (N + 1) ^ r + j := fun j => by
      rw [← Nat.mul_assoc, ← Nat.add_assoc, ← Nat.add_mul]
    by_cases q : n = N
    · rw [if_pos q, gR_pl r]
      refine it_cong (n := (N + 1) ^ r) (fun j st hj => ?_) ((N + 1) ^ r) 0 st (by omega)
      rw [ep j]
      congr 1
      show _ = (if (n * (N + 1) ^ r + j) / (N + 1) ^ r = N then _ else _)
      rw [(ec j hj).1, (ec j hj).2, if_pos q]
    · rw [if_neg q]
      by_cases u : wyt S c n = 0
      · rw [if_pos u, gR_pl r]
        refine it_cong (n := (N + 1) ^ r) (fun j st hj => ?_) ((N + 1) ^ r) 0 st (by omega)
        rw [ep j]
        congr 1
        show _ = (if (n * (N + 1) ^ r + j) / (N + 1) ^ r = N then _ else _)
        rw [(ec j hj).1, (ec j hj).2, if_neg q, if_pos u]
      · rw [if_neg u]
        refine (it_skip ((N + 1) ^ r) 0 st (fun j _ hj st => ?_)).symm
        have : pl f C N h c (r + 1) S d (n * (N + 1) ^ r + j) sum = none := by
          show (if (n * (N + 1) ^ r + j) / (N + 1) ^ r = N then _ else _) = none
          rw [(ec j (by omega)).1, if_neg q, if_neg u]
        rw [this]
        rfl
/-- the plan that tells nothing gives something -/
theorem pl_last (hc : c < C) : ∀ (r : Nat) (S : Nat → Int32) (d : Nat) (sum : Int32), dok S f C N h → 0 ≤ sum.toInt → sum.toInt + 1000 * (r : Int) ≤ 100000 → ∃ s, pl f C N h c r S d ((N + 1) ^ r - 1) sum = some s ∧ 0 ≤ s.toInt := by
  intro r
  induction r with
  | zero =>
    intro S d sum hk h1 h2
    exact ⟨sum, by unfold pl; rfl, h1⟩
  | succ r ih =>
    intro S d sum hk h1 h2
    have hp : 0 < (N + 1) ^ r := Nat.pow_pos (by omega)
    have b := mwi_bd (x := 0) hk hc
    have e : (N + 1) ^ (r + 1) - 1 = N * (N + 1) ^ r + ((N + 1) ^ r - 1) := by
      rw [Nat.pow_succ, Nat.mul_comm, Nat.add_mul, Nat.one_mul]
      omega
    have e1 : (N * (N + 1) ^ r + ((N + 1) ^ r - 1)) / (N + 1) ^ r = N := by
      rw [Nat.mul_comm N, Nat.mul_add_div hp, Nat.div_eq_of_lt (by omega)]
      rfl
    have e2 : (N * (N + 1) ^ r + ((N + 1) ^ r - 1)) % (N + 1) ^ r = (N + 1) ^ r - 1 := by
      rw [Nat.mul_comm N, Nat.mul_add_mod, Nat.mod_eq_of_lt (by omega)]
    have a := i32_add (a := sum) (b := mwi S C N c 0) (by omega) (by omega) (by omega) (by omega)
    obtain ⟨s, s1, s2⟩ := ih (dayS S d f C N h) (d + 1) (sum + mwi S C N c 0) (dok_c hk (fun j hj => dayS_o hk.1.2.2.2.2.1 hk.1.2.2.2.2.2.1 (by omega))) (by rw [a]; omega) (by rw [a]; omega)
    refine ⟨s, ?_, s2⟩
    unfold pl
    rw [e, e1, if_pos rfl, e2]
    exact s1
end PN
