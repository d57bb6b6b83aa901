/-! WHAT A SET OF NEWS WOULD ADD; lookAt. -/
section LA
variable {w w' : nc_H} {f C N h d c m n : Nat} {S : Nat → Int32}
theorem i32_arc (a b c : Int32) : a + b + c = a + c + b := by rw [Int32.add_assoc, Int32.add_comm b c, ← Int32.add_assoc]
theorem mwe_add (x y : Int32) : mwe S c n (x + y) = mwe S c n x + y := by
  unfold mwe
  by_cases q : S (37 + n) = 3 ∧ bq (S (116 + c)) (nI n)
  · rw [if_pos q, if_pos q]
    by_cases r : bq (S 57) (nI n)
    · rw [if_pos r, if_pos r, i32_arc]
    · rw [if_neg r, if_neg r, i32_arc]
  · rw [if_neg q, if_neg q]
/-- what news n would add -/
def advc (S : Nat → Int32) (C N c n : Nat) : Int32 := adv S (hbo S C c) (kns S N c) n
def ads (A : Nat → Int32) (m n : Nat) (x : Int32) : Int32 := if bq (nI m) (nI n) then x + A n else x
/-- what the first n news of the set m would add -/
def adN (A : Nat → Int32) (n m : Nat) : Int32 := it (ads A m) 0 n 0
theorem mst_more (hk : kOK S N) (hN : N ≤ 10) (hn : n < N) (hm : m < 1024) (hno : ∀ n, n < 32 → bq (nI m) (nI n) → ¬ bq (S (100 + c)) (nI n)) (hsl : slh S c) (x a : Int32) : mst S C c (S (100 + c) ||| nI m) (S (108 + c) ||| (nI m &&& kns S N c)) n (x + a) = mst S C c (S (100 + c)) (S (108 + c)) n x + ads (advc S C N c) m n a := by
  have n32 : n < 32 := by omega
  unfold mst ads
  by_cases q : bq (nI m) (nI n)
  · have nh := hno n n32 q
    have ns : ¬ bq (S (108 + c)) (nI n) := fun z => nh (hsl n n32 z)
    rw [if_pos q, if_neg (show ¬ (bq (S (100 + c)) (nI n) ∧ ¬ (2 : Int32) ≤ S (37 + n)) from fun z => nh z.1)]
    have hs' : bq (S (108 + c) ||| (nI m &&& kns S N c)) (nI n) ↔ bq (kns S N c) (nI n) := by
      rw [bq_or n32, bq_and n32]
      exact ⟨fun z => z.elim (fun z => absurd z ns) (fun z => z.2), fun z => Or.inr ⟨q, z⟩⟩
    have hh' : bq (S (100 + c) ||| nI m) (nI n) := (bq_or n32).mpr (Or.inr q)
    have ho : (S (37 + n) = 1 ∧ bq (hbo S C c) (nI n)) ↔ (S (37 + n) = 1 ∧ hos S C c n ≠ 0) := and_congr_right (fun _ => hbo_iff n32)
    have ev : (if S (37 + n) = 1 ∧ bq (hbo S C c) (nI n) then mv0 S n * 2 else mv0 S n) = mv S C c n := by
      unfold mv
      by_cases z : S (37 + n) = 1 ∧ bq (hbo S C c) (nI n)
      · rw [if_pos z, if_pos (ho.mp z)]
      · rw [if_neg z, if_neg (fun y => z (ho.mpr y))]
    unfold advc adv
    rw [ev]
    have fin : ∀ k : Int32, mwe S c n (x + a + k) = mwe S c n x + (a + k) := fun k => by rw [Int32.add_assoc, mwe_add]
    rcases hk n hn with k | k | k | k
    · rw [if_pos (show bq (S (100 + c) ||| nI m) (nI n) ∧ ¬ (2 : Int32) ≤ S (37 + n) from ⟨hh', by rw [k]; decide⟩), if_pos (Or.inl k)]
      by_cases z : bq (kns S N c) (nI n)
      · rw [if_pos (hs'.mpr z), if_pos z, fin]
      · rw [if_neg (fun y => z (hs'.mp y)), if_neg z, fin]
    · rw [if_pos (show bq (S (100 + c) ||| nI m) (nI n) ∧ ¬ (2 : Int32) ≤ S (37 + n) from ⟨hh', by rw [k]; decide⟩), if_pos (Or.inr k)]
      by_cases z : bq (kns S N c) (nI n)
      · rw [if_pos (hs'.mpr z), if_pos z, fin]
      · rw [if_neg (fun y => z (hs'.mp y)), if_neg z, fin]
    · rw [if_neg (show ¬ (bq (S (100 + c) ||| nI m) (nI n) ∧ ¬ (2 : Int32) ≤ S (37 + n)) from fun y => y.2 (by rw [k]; decide)), if_neg (by rw [k]; decide), mwe_add, Int32.add_zero]
    · rw [if_neg (show ¬ (bq (S (100 + c) ||| nI m) (nI n) ∧ ¬ (2 : Int32) ≤ S (37 + n)) from fun y => y.2 (by rw [k]; decide)), if_neg (by rw [k]; decide), mwe_add, Int32.add_zero]
  · rw [if_neg q]
    have hs' : bq (S (108 + c) ||| (nI m &&& kns S N c)) (nI n) ↔ bq (S (108 + c)) (nI n) := by
      rw [bq_or n32, bq_and n32]
      exact ⟨fun z => z.elim id (fun z => absurd z.1 q), Or.inl⟩
    have hh' : bq (S (100 + c) ||| nI m) (nI n) ↔ bq (S (100 + c)) (nI n) := by
      rw [bq_or n32]
      exact ⟨fun z => z.elim id (fun z => absurd z q), Or.inl⟩
    by_cases z : bq (S (100 + c)) (nI n) ∧ ¬ (2 : Int32) ≤ S (37 + n)
    · rw [if_pos z, if_pos (show bq (S (100 + c) ||| nI m) (nI n) ∧ ¬ (2 : Int32) ≤ S (37 + n) from ⟨hh'.mpr z.1, z.2⟩)]
      by_cases y : bq (S (108 + c)) (nI n)
      · rw [if_pos y, if_pos (hs'.mpr y), ← mwe_add, i32_arc]
      · rw [if_neg y, if_neg (fun u => y (hs'.mp u)), ← mwe_add, i32_arc]
    · rw [if_neg z, if_neg (show ¬ (bq (S (100 + c) ||| nI m) (nI n) ∧ ¬ (2 : Int32) ≤ S (37 + n)) from fun y => z ⟨hh'.mp y.1, y.2⟩), mwe_add]
theorem sum_more (hk : kOK S N) (hN : N ≤ 10) (hm : m < 1024) (hno : ∀ n, n < 32 → bq (nI m) (nI n) → ¬ bq (S (100 + c)) (nI n)) (hsl : slh S c) : ∀ (k i : Nat) (x a : Int32), i + k = N → it (mst S C c (S (100 + c) ||| nI m) (S (108 + c) ||| (nI m &&& kns S N c))) i k (x + a) = it (mst S C c (S (100 + c)) (S (108 + c))) i k x + it (ads (advc S C N c) m) i k a
  | 0, _, _, _, _ => rfl
  | k + 1, i, x, a, hi => by
    show it (mst S C c (S (100 + c) ||| nI m) (S (108 + c) ||| (nI m &&& kns S N c))) (i + 1) k (mst S C c (S (100 + c) ||| nI m) (S (108 + c) ||| (nI m &&& kns S N c)) i (x + a)) = it (mst S C c (S (100 + c)) (S (108 + c))) (i + 1) k (mst S C c (S (100 + c)) (S (108 + c)) i x) + it (ads (advc S C N c) m) (i + 1) k (ads (advc S C N c) m i a)
    rw [mst_more hk hN (by omega) hm hno hsl, sum_more hk hN hm hno hsl k (i + 1) _ _ (by omega)]
/-- what she gives without more, but it may be below 0 yet -/
def smo (S : Nat → Int32) (C N c : Nat) : Int32 := it (mst S C c (S (100 + c)) (S (108 + c))) 0 N (S (13 + c))
theorem mwi_m (hk : kOK S N) (hN : N ≤ 10) (hm : m < 1024) (hno : ∀ n, n < 32 → bq (nI m) (nI n) → ¬ bq (S (100 + c)) (nI n)) (hsl : slh S c) (hd : ¬ bq (S 77) (nI c)) : mwi S C N c (nI m) = if cu S c ∨ war S N (nI m) then 0 else mx 0 (smo S C N c + adN (advc S C N c) N m) := by
  unfold mwi mby
  have e := sum_more (C := C) hk hN hm hno hsl N 0 (S (13 + c)) 0 (by omega)
  rw [Int32.add_zero] at e
  rw [e]
  by_cases q : cu S c ∨ war S N (nI m)
  · rw [if_pos q, if_pos (Or.inr q)]
  · rw [if_neg q, if_neg (fun z => z.elim hd q)]
    rfl
theorem mx_nn (x : Int32) : 0 ≤ mx 0 x := by
  unfold mx
  by_cases q : (0 : Int32) ≤ x
  · rw [if_pos q]; exact q
  · rw [if_neg q]; decide
theorem mwi_nn {x : Int32} : 0 ≤ mwi S C N c x := by
  unfold mwi mby
  split
  · decide
  · exact mx_nn _
/-! sums over sets, as the class makes them -/
theorem tb_lo : ∀ n, n < 10 → ∀ s, s < 2 ^ n → s ||| 2 ^ n = 2 ^ n + s := by decide +kernel
theorem ads_c {A : Nat → Int32} {m m' : Nat} (hm : m < 1024) (hm' : m' < 1024) {n : Nat} (hn : n ≤ 10) (h : ∀ i, i < n → m.testBit i = m'.testBit i) : adN A n m = adN A n m' := by
  unfold adN
  refine it_cong (n := n) (fun i x hi => ?_) n 0 0 (by omega)
  unfold ads
  have : bq (nI m) (nI i) ↔ bq (nI m') (nI i) := by rw [tb_bq hm (by omega), tb_bq hm' (by omega), h i hi]
  by_cases q : bq (nI m) (nI i)
  · rw [if_pos q, if_pos (this.mp q)]
  · rw [if_neg q, if_neg (fun z => q (this.mpr z))]
theorem adN_s {A : Nat → Int32} {n m : Nat} : adN A (n + 1) m = ads A m n (adN A n m) := by
  unfold adN
  rw [it_succ, Nat.zero_add]
theorem adN_lo {A : Nat → Int32} {n m : Nat} (hn : n < 10) (hm : m < 2 ^ n) : adN A (n + 1) m = adN A n m := by
  have p := Nat.pow_le_pow_right (n := 2) (by decide) (show n ≤ 10 by omega)
  rw [adN_s]
  unfold ads
  rw [if_neg (fun q => by
    rw [tb_bq (by omega) (by omega), Nat.testBit_lt_two_pow hm] at q
    cases q)]
theorem adN_hi {A : Nat → Int32} {n t : Nat} (hn : n < 10) (ht : t < 2 ^ n) : adN A (n + 1) (2 ^ n + t) = adN A n t + A n := by
  have p := Nat.pow_le_pow_right (n := 2) (by decide) (show n + 1 ≤ 10 by omega)
  have p2 : 2 ^ (n + 1) = 2 * 2 ^ n := p2s n
  rw [adN_s, ads_c (m' := t) (by omega) (by omega) (by omega) (fun i hi => Nat.testBit_two_pow_add_gt hi t)]
  unfold ads
  rw [if_pos (by
    rw [tb_bq (by omega) (by omega), Nat.testBit_two_pow_add_eq, Nat.testBit_lt_two_pow ht]
    rfl)]
abbrev hO : nc_V := .inr (.inr (1, 0))
theorem la_in (r x : Int32) (hn : n < 10) {A : Nat → Int32} (hA : ∀ m, m < 2 ^ n → w.1 166 0 m = adN A n m) : ∃ w', nc_Run m_X1_lookAt 123 [some hO, some (.inl x), some (.inl r), some (.inl (nI n)), some (.inl (A n)), some (.inl (nI 0))] [] w = nc_Run m_X1_lookAt 89 [some hO, some (.inl x), some (.inl r), some (.inl (nI (n + 1))), none, none] [] w' ∧ eqO (fun t a => t = 166 ∧ a = 0) w w' ∧ ∀ m, m < 2 ^ (n + 1) → w'.1 166 0 m = adN A (n + 1) m := by
  have p := Nat.pow_le_pow_right (n := 2) (by decide) (show n + 1 ≤ 10 by omega)
  have p2 : 2 ^ (n + 1) = 2 * 2 ^ n := p2s n
  have p3 := p2p n
  refine lp (R := fun s (v : nc_H) => nc_Run m_X1_lookAt 123 [some hO, some (.inl x), some (.inl r), some (.inl (nI n)), some (.inl (A n)), some (.inl (nI s))] [] v) (I := fun s v => eqO (fun t a => t = 166 ∧ a = 0) w v ∧ (∀ m, m < 2 ^ n → v.1 166 0 m = adN A n m) ∧ ∀ t, t < s → v.1 166 0 (2 ^ n + t) = adN A n t + A n) (n := 2 ^ n) (Q := fun R => ∃ w', R = nc_Run m_X1_lookAt 89 [some hO, some (.inl x), some (.inl r), some (.inl (nI (n + 1))), none, none] [] w' ∧ eqO (fun t a => t = 166 ∧ a = 0) w w' ∧ ∀ m, m < 2 ^ (n + 1) → w'.1 166 0 m = adN A (n + 1) m) ?_ ?_ (2 ^ n) 0 w (by omega) ⟨eqO.rf, hA, fun t ht => absurd ht (Nat.not_lt_zero t)⟩
  · rintro s v hs ⟨q1, q2, q3⟩
    right
    have ix : nI s ||| nI (2 ^ n) = nI (2 ^ n + s) := by
      rw [nI_or (by omega) (by omega), tb_lo n hn s hs]
    refine ⟨row v 166 0 (upd (v.1 166 0) (2 ^ n + s) (adN A n s + A n)), ?_, q1.row ⟨rfl, rfl⟩, fun m hm => ?_, fun t ht => ?_⟩
    · show nc_Run m_X1_lookAt 123 _ _ v = nc_Run m_X1_lookAt 123 _ _ _
      rw [qr_X1_lookAt_123, show (1 <<< (nI n &&& 31) : Int32) = nI (2 ^ n) from bs_nI n hn, if_neg (nI_ge hs (by omega)), bd8 s 1024 (by omega) (by decide), nc_bd_of (2 ^ n + s) ix (by omega) (by decide), nc_lt_v, nc_li_v, nI_1, si_rw, q2 s hs]
    · rw [row_s, upd_n (by omega), q2 m hm]
    · by_cases e : t = s
      · subst e
        rw [row_s, upd_s]
      · rw [row_s, upd_n (by omega), q3 t (by omega)]
  · rintro v ⟨q1, q2, q3⟩
    refine ⟨v, ?_, q1, fun m hm => ?_⟩
    · show nc_Run m_X1_lookAt 123 _ _ v = _
      rw [qr_X1_lookAt_123, show (1 <<< (nI n &&& 31) : Int32) = nI (2 ^ n) from bs_nI n hn, if_pos (nI_le (Nat.le_refl _) (by omega)), nc_li_v, nI_1]
    · by_cases e : m < 2 ^ n
      · rw [q2 m e, adN_lo hn e]
      · rw [show m = 2 ^ n + (m - 2 ^ n) by omega, q3 (m - 2 ^ n) (by omega), adN_hi hn (by omega)]
/-- rows that a choice may change -/
def cQ (t a : Nat) : Prop := a = 0 ∧ (t = 1 ∨ t = 166)
/-- what a look at cow c leaves -/
def LKd (w : nc_H) (S : Nat → Int32) (C N c k : Nat) : Prop := w.1 1 0 4 = ((1 <<< (nI N &&& 31)) - 1) &&& (S (100 + c) ^^^ (-1)) ∧ w.1 1 0 5 = S 4 - nI (pc k) ∧ w.1 1 0 6 = smo S C N c ∧ w.1 1 0 7 = tI (cu S c) ∧ ∀ m, m < 2 ^ N → w.1 166 0 m = adN (advc S C N c) N m
theorem sh_lookAt {k : Nat} (hD : DR w 0 S f C N h) (hL : LK w 0 S C N) (hk : kOK S N) (hd : dOK S) (hc : c < C) (hk1 : k < 1024) (hk2 : S (100 + c) = nI k) : ∃ w', nc_Call m_X1_lookAt [hO, .inl (nI c)] w = some (none, w') ∧ eqO cQ w w' ∧ (∀ j, j < 4 ∨ 8 ≤ j → w'.1 1 0 j = w.1 1 0 j) ∧ LKd w' S C N c k := by
  have hC : C ≤ 8 := hD.1.2.2.2.2.2.1
  have hN : N ≤ 10 := hD.1.2.2.2.2.2.2.1
  have h8 : c < 8 := by omega
  have e3 : w.1 2 0 3 = nI N := hD.2.1.2.2.1
  have e5 : w.1 2 0 5 = S 4 := hD.2.1.2.2.2.2.1
  have e55 : w.1 555 0 c = S (100 + c) := (hL.1.2 c h8).1
  let g4 : Nat → Int32 := upd (w.1 1 0) 4 (((1 <<< (nI N &&& 31)) - 1) &&& (S (100 + c) ^^^ (-1)))
  let g5 : Nat → Int32 := upd g4 5 (S 4 - nI (pc k))
  let g6 : Nat → Int32 := upd g5 6 (smo S C N c)
  let g7 : Nat → Int32 := upd g6 7 (tI (cu S c))
  have DD : ∀ (g : Nat → Int32), DR (row w 1 0 g) 0 S f C N h := fun g => DR_eq hD (fun t ht => by rw [row_t (by omega)]) (fun _ _ => rfl)
  have LL : ∀ (g : Nat → Int32), LK (row w 1 0 g) 0 S C N := fun g => LK_eq hL (fun t ht => by rw [row_t (by omega)])
  have z1 := sl_sumOf (a := 0) (w := row w 1 0 g5) (c := c) (DD g5) (LL g5).1 hk hc
  have z2 := sl_isCurdled (a := 0) (c := c) (row w 1 0 g6) (LL g6).1 hd h8
  have z3 := sl_heardByOthers (a := 0) (c := c) (row w 1 0 g7) (DD g7) (LL g7).1 hc
  rw [qc_X1_lookAt, qc_X2_allNews, nc_bI_v, bd8 c 8 h8 (by decide), nc_lt_v, bd8 c 8 h8 (by decide), si_rw, e3, e55]
  show ∃ w', nc_bI (nc_Call m_J6_bitCount_0f7a4 [.inl ((row w 1 0 g4).1 555 0 c)] (row w 1 0 g4)) _ = _ ∧ _
  rw [row_t (show (555 : Nat) ≠ 1 by decide), e55, hk2, s_bitCount _ hk1, nc_bI_v, nc_lt_v, si_rw, row_s, row_r, row_t (show (2 : Nat) ≠ 1 by decide), e5]
  show ∃ w', nc_bI (nc_Call m_X7_sumOf [lO 0, .inl (nI c)] (row w 1 0 g5)) _ = _ ∧ _
  rw [z1, nc_bI_v, nc_lt_v, si_rw, row_s, row_r]
  show ∃ w', nc_bI (nc_Call m_X7_isCurdled [lO 0, .inl (nI c)] (row w 1 0 g6)) _ = _ ∧ _
  rw [z2, nc_bI_v, nc_z_tI, nc_lt_v, si_rw, row_s, row_r]
  show ∃ w', nc_bI (nc_Call m_X7_heardByOthers [lO 0, .inl (nI c)] (row w 1 0 g7)) _ = _ ∧ _
  rw [z3, nc_bI_v, nc_lt_v, si_rw]
  have base : eqO (fun t a => t = 166 ∧ a = 0) (row w 1 0 g7) (row (row w 1 0 g7) 166 0 (upd ((row w 1 0 g7).1 166 0) 0 0)) := eqO.rf.row ⟨rfl, rfl⟩
  have key : ∃ w', nc_Run m_X1_lookAt 89 [some hO, some (.inl (nI c)), some (.inl (hbo S C c)), some (.inl (nI 0)), none, none] [] (row (row w 1 0 g7) 166 0 (upd ((row w 1 0 g7).1 166 0) 0 0)) = some (none, w') ∧ eqO (fun t a => t = 166 ∧ a = 0) (row w 1 0 g7) w' ∧ ∀ m, m < 2 ^ N → w'.1 166 0 m = adN (advc S C N c) N m := by
    refine lp (R := fun n (v : nc_H) => nc_Run m_X1_lookAt 89 [some hO, some (.inl (nI c)), some (.inl (hbo S C c)), some (.inl (nI n)), none, none] [] v) (I := fun n v => eqO (fun t a => t = 166 ∧ a = 0) (row w 1 0 g7) v ∧ ∀ m, m < 2 ^ n → v.1 166 0 m = adN (advc S C N c) n m) (n := N) (Q := fun r => ∃ w', r = some (none, w') ∧ eqO (fun t a => t = 166 ∧ a = 0) (row w 1 0 g7) w' ∧ ∀ m, m < 2 ^ N → w'.1 166 0 m = adN (advc S C N c) N m) ?_ ?_ N 0 _ (by omega) ⟨base, fun m hm => ?_⟩
    · rintro n v hn ⟨q1, q2⟩
      right
      have vt : ∀ t, t ≠ 166 → v.1 t 0 = (row w 1 0 g7).1 t 0 := fun t ht => q1.2 t 0 (fun q => ht q.1)
      have D1 : DR v 0 S f C N h := DR_eq (DD g7) (fun t ht => vt t (by omega)) (fun _ _ => rfl)
      have L1 : LK v 0 S C N := LK_eq (LL g7) (fun t ht => vt t (by omega))
      obtain ⟨w', a1, a2, a3⟩ := la_in (w := v) (hbo S C c) (nI c) (show n < 10 by omega) (A := advc S C N c) q2
      refine ⟨w', ?_, q1.tr a2, a3⟩
      show nc_Run m_X1_lookAt 89 _ _ v = nc_Run m_X1_lookAt 89 _ _ w'
      rw [qr_X1_lookAt_89, D1.2.1.2.2.1, if_neg (nI_ge hn (by omega)), bd8 c 8 h8 (by decide), L1.2.2.2.1 c hc, sl_addedBy (a := 0) v D1 L1.1 hn, nc_bI_v]
      exact a1
    · rintro v ⟨q1, q2⟩
      refine ⟨v, ?_, q1, q2⟩
      show nc_Run m_X1_lookAt 89 _ _ v = _
      rw [qr_X1_lookAt_89, q1.2 2 0 (by omega), row_t (by decide), e3, if_pos (nI_le (Nat.le_refl _) (by omega))]
    · have : m = 0 := by
        have : m < 1 := hm
        omega
      subst this
      rw [row_s, upd_s]
      rfl
  obtain ⟨w', a1, a2, a3⟩ := key
  have v1 : w'.1 1 0 = g7 := (a2.2 1 0 (by omega)).trans row_s
  refine ⟨w', a1, (eqO.rf.row ⟨rfl, by omega⟩).tr (a2.mono (fun t a q => ⟨q.2, by omega⟩)), fun j hj => ?_, ?_, ?_, ?_, ?_, a3⟩
  · rw [v1]
    show upd (upd (upd (upd (w.1 1 0) 4 _) 5 _) 6 _) 7 _ j = _
    rw [upd_n (by omega), upd_n (by omega), upd_n (by omega), upd_n (by omega)]
  · rw [v1]
    show upd (upd (upd (upd (w.1 1 0) 4 _) 5 _) 6 _) 7 _ 4 = _
    rw [upd_n (by decide), upd_n (by decide), upd_n (by decide), upd_s]
  · rw [v1]
    show upd (upd (upd (upd (w.1 1 0) 4 _) 5 _) 6 _) 7 _ 5 = _
    rw [upd_n (by decide), upd_n (by decide), upd_s]
  · rw [v1]
    show upd (upd (upd (upd (w.1 1 0) 4 _) 5 _) 6 _) 7 _ 6 = _
    rw [upd_n (by decide), upd_s]
  · rw [v1]
    show upd (upd (upd (upd (w.1 1 0) 4 _) 5 _) 6 _) 7 _ 7 = _
    rw [upd_s]
end LA
