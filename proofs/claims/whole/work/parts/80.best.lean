/-! bestOf, of both; best, honest. -/
section BO
variable {w w' v : nc_H} {f C N h d c k al so : Nat} {S : Nat → Int32}
theorem nn_sub {a b : Int32} (ha : 0 ≤ a) (hb : 0 ≤ b) : (0 < a - b ↔ b < a) ∧ (a - b = 0 ↔ a = b) ∧ (a - b < 0 ↔ a < b) := by
  rw [Int32.le_iff_toInt_le] at ha hb
  have h0 : (0 : Int32).toInt = 0 := by decide
  rw [h0] at ha hb
  have a1 := Int32.toInt_lt a
  have b1 := Int32.toInt_lt b
  have e : (a - b).toInt = a.toInt - b.toInt := by
    rw [Int32.toInt_sub, Int.bmod_def]
    split <;> omega
  refine ⟨?_, ?_, ?_⟩
  · rw [Int32.lt_iff_toInt_lt, Int32.lt_iff_toInt_lt, e, h0]
    omega
  · rw [← Int32.toInt_inj, ← Int32.toInt_inj, e, h0]
    omega
  · rw [Int32.lt_iff_toInt_lt, Int32.lt_iff_toInt_lt, e, h0]
    omega
theorem bs_nI2 : ∀ n, n < 12 → bs n = nI (2 ^ n) := by decide +kernel
theorem bq_wbs (hN : N ≤ 10) {n : Nat} (hn : n < 32) : bq (wbs S N) (nI n) ↔ n < N ∧ S (37 + n) = 2 := by
  unfold wbs
  rw [it_bits (P := fun i => S (37 + i) = 2) (N := N) (by omega) N 0 0 (by omega) n hn]
  exact ⟨fun q => q.elim (fun q => absurd q (bq_z hn)) (fun q => q.2), fun q => Or.inr ⟨by omega, q⟩⟩
theorem and_ne0 {x y : Int32} : x &&& y ≠ 0 ↔ ∃ n, n < 32 ∧ bq x (nI n) ∧ bq y (nI n) := by
  constructor
  · intro q
    refine Classical.byContradiction (fun z => q ?_)
    refine bq_ext (fun n hn => ?_)
    rw [bq_and hn]
    exact ⟨fun y => absurd ⟨n, hn, y⟩ z, fun y => absurd y (bq_z hn)⟩
  · rintro ⟨n, hn, q1, q2⟩ e
    have : bq (x &&& y) (nI n) := (bq_and hn).mpr ⟨q1, q2⟩
    rw [e] at this
    exact bq_z hn this
theorem war_and (hN : N ≤ 10) {x : Int32} : x &&& wbs S N = 0 ↔ ¬ war S N x := by
  constructor
  · rintro q ⟨n, n1, n2, n3⟩
    exact and_ne0.mpr ⟨n, by omega, n2, (bq_wbs hN (by omega)).mpr ⟨n1, n3⟩⟩ q
  · intro q
    refine Classical.byContradiction (fun z => ?_)
    obtain ⟨n, n1, n2, n3⟩ := and_ne0.mp z
    have := (bq_wbs hN n1).mp n3
    exact q ⟨n, this.1, n2, this.2⟩
/-- she is not dry; k is what she heard -/
def CX (S : Nat → Int32) (f C N h d c k : Nat) : Prop := dok S f C N h ∧ lok S C N d ∧ c < C ∧ ¬ bq (S 77) (nI c) ∧ k < 2 ^ N ∧ slh S c ∧ S (100 + c) = nI k
/-- the class's state behind a look -/
def CW (w : nc_H) (S : Nat → Int32) (C N c k : Nat) : Prop := LKd w S C N c k ∧ w.1 2 0 7 = wbs S N ∧ w.1 2 0 6 = S 57 ∧ w.1 2 0 3 = nI N
def dj (S : Nat → Int32) (c m : Nat) : Prop := ∀ n, n < 32 → bq (nI m) (nI n) → ¬ bq (S (100 + c)) (nI n)
theorem sh_milkBy {m : Nat} (hX : CX S f C N h d c k) (hW : CW w S C N c k) (hm : m < 2 ^ N) (hj : dj S c m) : nc_Call m_X1_milkBy [hO, .inl (nI m)] w = some (some (.inl (mwi S C N c (nI m))), w) := by
  obtain ⟨x1, x2, x3, x4, x5, x6, x7⟩ := hX
  obtain ⟨⟨y1, y2, y3, y4, y5⟩, y6, y7⟩ := hW
  have hN : N ≤ 10 := x1.1.2.2.2.2.2.2.1
  have p := pow_N hN
  rw [qc_X1_milkBy, y4, mwi_m x1.2.1 hN (by omega) hj x6 x4]
  by_cases q : cu S c
  · rw [if_pos (tI_ne.mpr q), if_pos (Or.inl q)]
  · rw [if_neg (fun z => z (tI_eq0.mpr q)), y6]
    by_cases r : war S N (nI m)
    · rw [if_neg (fun z => (war_and hN).mp z r), if_pos (Or.inr r)]
    · rw [if_pos ((war_and hN).mpr r), bd8 m 1024 (by omega) (by decide), y3, y5 m hm, mx_max, if_neg (fun z => z.elim q r)]
/-- s instead of b -/
def stB (S : Nat → Int32) (C N c k al s b : Nat) : Nat := if s &&& al = s ∧ ¬ (S 4 - nI (pc k)) < nI (pc s) ∧ (mwi S C N c (nI b) < mwi S C N c (nI s) ∨ (mwi S C N c (nI s) = mwi S C N c (nI b) ∧ pc s < pc b)) then s else b
theorem stB_sub {s b : Nat} (hb : b &&& al = b) : stB S C N c k al s b &&& al = stB S C N c k al s b := by
  unfold stB
  split
  · next q => exact q.1
  · exact hb
theorem stB_n {s b : Nat} (hs : s &&& al ≠ s) : stB S C N c k al s b = b := if_neg (fun q => hs q.1)
theorem stB_0 : stB S C N c k al 0 0 = 0 := by
  unfold stB
  split <;> rfl
theorem it_sh {α : Type} {st : Nat → α → α} : ∀ (n i : Nat) (a : α), it (fun i a => st (i + 1) a) i n a = it st (i + 1) n a
  | 0, _, _ => rfl
  | n + 1, i, a => it_sh n (i + 1) (st (i + 1) a)
theorem sub_le {s a : Nat} (h : s &&& a = s) : s ≤ a := by
  have : s &&& a ≤ a := Nat.and_le_right
  omega
theorem sh_bestOf (hX : CX S f C N h d c k) (hW : CW w S C N c k) (hal : al < 2 ^ N) (hj : dj S c al) : nc_Call m_X1_bestOf [hO, .inl (nI al)] w = some (some (.inl (nI (it (fun k' b => stB S C N c k al (pd al k') b) 0 (2 ^ pcb 10 al) 0))), w) := by
  have hN : N ≤ 10 := hX.1.1.2.2.2.2.2.2.1
  have p := pow_N hN
  have pl := pc_le al
  have pcl : 2 ^ pcb 10 al ≤ 2 ^ 10 := Nat.pow_le_pow_right (by decide) (by rw [← pc_b]; exact pl)
  have pp := p2p (pcb 10 al)
  have hjs : ∀ s, s &&& al = s → s < 2 ^ N ∧ dj S c s := fun s hs => by
    have := sub_le hs
    exact ⟨by omega, fun n hn q => hj n hn ((sub_bq (by omega) (by omega)).mp hs n hn q)⟩
  rw [qc_X1_bestOf, s_bitCount w (by omega), nc_bI_v, nc_li_v, show (1 <<< (nI (pc al) &&& 31) : Int32) = nI (2 ^ pcb 10 al) from by rw [← pc_b]; exact bs_nI2 _ (by omega)]
  have key := it_loop (R := fun i (b : Nat) => nc_Run m_X1_bestOf 15 [some hO, some (.inl (nI al)), some (.inl (nI b)), some (.inl (nI (2 ^ pcb 10 al))), some (.inl (nI (pd al i))), some (.inl (nI (i + 1))), none, none] [] w) (st := fun i b => stB S C N c k al (pd al (i + 1)) b) (I := fun _ b => b &&& al = b) (n := 2 ^ pcb 10 al - 1) (out := fun b => some (some (.inl (nI b)), w)) ?_ ?_ (2 ^ pcb 10 al - 1) 0 0 (by omega) (Nat.zero_and al)
  · have k2 : nc_Run m_X1_bestOf 15 [some hO, some (.inl (nI al)), some (.inl (nI 0)), some (.inl (nI (2 ^ pcb 10 al))), some (.inl (nI (pd al 0))), some (.inl (nI 1)), none, none] [] w = _ := key
    rw [show pd al 0 = 0 from pdp_0 10 al, it_sh (st := fun k' b => stB S C N c k al (pd al k') b)] at k2
    have e : it (fun k' b => stB S C N c k al (pd al k') b) 0 (2 ^ pcb 10 al) 0 = it (fun k' b => stB S C N c k al (pd al k') b) 1 (2 ^ pcb 10 al - 1) 0 := by
      rw [show 2 ^ pcb 10 al = (2 ^ pcb 10 al - 1) + 1 by omega]
      show it (fun k' b => stB S C N c k al (pd al k') b) (0 + 1) (2 ^ pcb 10 al - 1) (stB S C N c k al (pd al 0) 0) = _
      rw [show pd al 0 = 0 from pdp_0 10 al, stB_0, Nat.add_sub_cancel]
    rw [e]
    exact k2
  · intro i b hi hb
    refine ⟨?_, stB_sub hb⟩
    have hs : pd al (i + 1) &&& al = pd al (i + 1) := pdp_sub 10 al (i + 1)
    have ls := sub_le hs
    have lb := sub_le hb
    have ps := pc_le (pd al (i + 1))
    have pb := pc_le b
    show nc_Run m_X1_bestOf 15 _ _ w = nc_Run m_X1_bestOf 15 _ _ w
    rw [qr_X1_bestOf_15, if_neg (nI_ge (by omega) (by omega)), qc_X1_setAfter, nc_bI_v, set_next (by omega) (by omega), s_bitCount w (by omega), nc_bI_v, hW.1.2.1]
    unfold stB
    by_cases q : (S 4 - nI (pc k)) < nI (pc (pd al (i + 1)))
    · rw [if_pos q, nc_li_v, nI_1, if_neg (fun z => z.2.1 q)]
    · obtain ⟨nn1, nn2, nn3⟩ := nn_sub (mwi_nn (S := S) (C := C) (N := N) (c := c) (x := nI (pd al (i + 1)))) (mwi_nn (S := S) (C := C) (N := N) (c := c) (x := nI b))
      rw [if_neg q, sh_milkBy hX hW (hjs _ hs).1 (hjs _ hs).2, nc_bI_v, sh_milkBy hX hW (hjs _ hb).1 (hjs _ hb).2, nc_bI_v, nc_li_v]
      by_cases r : mwi S C N c (nI b) < mwi S C N c (nI (pd al (i + 1)))
      · rw [if_pos (nn1.mpr r), nc_li_v, nI_1, if_pos ⟨hs, q, Or.inl r⟩]
      · rw [if_neg (fun z => r (nn1.mp z))]
        by_cases r2 : mwi S C N c (nI (pd al (i + 1))) = mwi S C N c (nI b)
        · rw [if_neg (fun z => z (nn2.mpr r2)), s_bitCount w (by omega), nc_bI_v]
          by_cases r3 : pc (pd al (i + 1)) < pc b
          · rw [if_neg (nI_ge r3 (by omega)), nc_li_v, nI_1, if_pos ⟨hs, q, Or.inr ⟨r2, r3⟩⟩]
          · rw [if_pos (nI_le (by omega) (by omega)), nc_li_v, nI_1, if_neg (fun z => z.2.2.elim r (fun y => r3 y.2))]
        · rw [if_pos (fun z => r2 (nn2.mp z)), nc_li_v, nI_1, if_neg (fun z => z.2.2.elim r (fun y => r2 y.1))]
  · intro b _
    show nc_Run m_X1_bestOf 15 _ _ w = _
    rw [qr_X1_bestOf_15, if_pos (nI_le (by omega) (by omega))]
theorem not_sub {s so : Nat} (hs : s < 1024) (hso : so < 1024) : nI s &&& (nI so ^^^ (-1)) ≠ 0 ↔ s &&& so ≠ s := by
  rw [and_ne0]
  constructor
  · rintro ⟨n, n1, n2, n3⟩ e
    exact (bq_not n1).mp n3 ((sub_bq hs hso).mp e n n1 n2)
  · intro q
    refine Classical.byContradiction (fun z => q ((sub_bq hs hso).mpr (fun n hn y => ?_)))
    exact Classical.byContradiction (fun u => z ⟨n, hn, y, (bq_not hn).mpr u⟩)
theorem sm_mayHear_t {s : Nat} (hX : CX S f C N h d c k) (hS : w.1 874 0 = S) (hs : s < 1024) (q : dj S c s) (r : ¬ (S 4 - nI (pc k)) < nI (pc s)) : nc_Call m_X12_mayHear [mO, .inl (nI c), .inl (nI s)] w = some (some (.inl 1), w) := by
  obtain ⟨x1, x2, x3, x4, x5, x6, x7⟩ := hX
  have hC : C ≤ 8 := x1.1.2.2.2.2.2.1
  have hN : N ≤ 10 := x1.1.2.2.2.2.2.2.1
  have p := pow_N hN
  rw [qc_X12_mayHear, pl_100 (by omega), hS, if_neg (fun z => by
      obtain ⟨n, n1, n2, n3⟩ := and_ne0.mp z
      exact q n n1 n2 n3), sm_bits w hs, nc_bI_v, pl_100 (by omega), hS, x7, sm_bits w (by omega), nc_bI_v, if_neg r]
theorem sm_mayHear_f {s : Nat} (hX : CX S f C N h d c k) (hS : w.1 874 0 = S) (hs : s < 1024) (qr : ¬ (dj S c s ∧ ¬ (S 4 - nI (pc k)) < nI (pc s))) : nc_Call m_X12_mayHear [mO, .inl (nI c), .inl (nI s)] w = some (some (.inl 0), w) := by
  obtain ⟨x1, x2, x3, x4, x5, x6, x7⟩ := hX
  have hC : C ≤ 8 := x1.1.2.2.2.2.2.1
  have hN : N ≤ 10 := x1.1.2.2.2.2.2.2.1
  have p := pow_N hN
  rw [qc_X12_mayHear, pl_100 (by omega), hS]
  by_cases q : dj S c s
  · rw [if_neg (fun z => by
      obtain ⟨n, n1, n2, n3⟩ := and_ne0.mp z
      exact q n n1 n2 n3), sm_bits w hs, nc_bI_v, pl_100 (by omega), hS, x7, sm_bits w (by omega), nc_bI_v, if_pos (Classical.byContradiction (fun z => qr ⟨q, z⟩))]
  · rw [if_pos (and_ne0.mpr (Classical.byContradiction (fun z => q (fun n hn y u => z ⟨n, hn, y, u⟩))))]
theorem sm_bestOf (hX : CX S f C N h d c k) (hS : w.1 874 0 = S) (hso : so < 2 ^ N) (hal : al < 2 ^ N) (ha : ∀ s, s < 1024 → (s &&& al = s ↔ s &&& so = s ∧ dj S c s)) : nc_Call m_X12_bestOf [mO, .inl (nI c), .inl (nI so)] w = some (some (.inl (nI (it (stB S C N c k al) 1 so 0))), w) := by
  have hX0 := hX
  obtain ⟨x1, x2, x3, x4, x5, x6, x7⟩ := hX
  have hC : C ≤ 8 := x1.1.2.2.2.2.2.1
  have hN : N ≤ 10 := x1.1.2.2.2.2.2.2.1
  have p := pow_N hN
  have hs0 : shp (w.1 874 0) f C N h := by rw [hS]; exact x1.1
  rw [qc_X12_bestOf]
  have key := it_loop (R := fun i (b : Nat) => nc_Run m_X12_bestOf 5 [some mO, some (.inl (nI c)), some (.inl (nI so)), some (.inl (nI b)), some (.inl (nI (i + 1))), none, none] [] w) (st := fun i b => stB S C N c k al (i + 1) b) (I := fun _ b => b < 1024) (n := so) (out := fun b => some (some (.inl (nI b)), w)) ?_ ?_ so 0 0 (by omega) (by decide)
  · rw [it_sh (st := stB S C N c k al)] at key
    exact key
  · intro i b hi hb
    have ps := pc_le (i + 1)
    have pb := pc_le b
    refine ⟨?_, ?_⟩
    · show nc_Run m_X12_bestOf 5 _ _ w = nc_Run m_X12_bestOf 5 _ _ w
      rw [qr_X12_bestOf_5, if_neg (nI_nlt (by omega) (by omega))]
      by_cases q : (i + 1) &&& so = i + 1
      · rw [if_neg (fun z => (not_sub (by omega) (by omega)).mp z q)]
        by_cases r : dj S c (i + 1)
        · have hs : (i + 1) &&& al = i + 1 := (ha (i + 1) (by omega)).mpr ⟨q, r⟩
          by_cases y : (S 4 - nI (pc k)) < nI (pc (i + 1))
          · rw [sm_mayHear_f hX0 hS (by omega) (fun u => u.2 y), nc_bI_v, if_neg (fun z => z rfl), nc_li_v, nI_1]
            unfold stB
            rw [if_neg (fun z => z.2.1 y)]
          · rw [sm_mayHear_t hX0 hS (by omega) r y, nc_bI_v, if_pos (show (1 : Int32) ≠ 0 by decide), sm_milkWith w hs0 (by omega), nc_bI_v, sm_milkWith w hs0 (by omega), nc_bI_v, hS]
            unfold stB
            by_cases u : mwi S C N c (nI b) < mwi S C N c (nI (i + 1))
            · rw [if_pos u, nc_li_v, nI_1, if_pos ⟨hs, y, Or.inl u⟩]
            · rw [if_neg u]
              by_cases u2 : mwi S C N c (nI (i + 1)) = mwi S C N c (nI b)
              · rw [if_neg (fun z => z u2), sm_bits w (by omega), nc_bI_v, sm_bits w hb, nc_bI_v]
                by_cases u3 : pc (i + 1) < pc b
                · rw [if_neg (nI_ge u3 (by omega)), nc_li_v, nI_1, if_pos ⟨hs, y, Or.inr ⟨u2, u3⟩⟩]
                · rw [if_pos (nI_le (by omega) (by omega)), nc_li_v, nI_1, if_neg (fun z => z.2.2.elim u (fun y => u3 y.2))]
              · rw [if_pos u2, nc_li_v, nI_1, if_neg (fun z => z.2.2.elim u (fun y => u2 y.1))]
        · rw [sm_mayHear_f hX0 hS (by omega) (fun u => r u.1), nc_bI_v, if_neg (fun z => z rfl), nc_li_v, nI_1, stB_n (fun z => r ((ha (i + 1) (by omega)).mp z).2)]
      · rw [if_pos ((not_sub (by omega) (by omega)).mpr q), nc_li_v, nI_1, stB_n (fun z => q ((ha (i + 1) (by omega)).mp z).1)]
    · unfold stB
      split <;> omega
  · intro b _
    show nc_Run m_X12_bestOf 5 _ _ w = _
    rw [qr_X12_bestOf_5, if_pos (nI_lt (by omega) (by omega))]
/-- both choose alike -/
theorem best_both {X Y : Int32} (hX : CX S f C N h d c k) (hW : CW w S C N c k) (hS : v.1 874 0 = S) (hY : ∀ n, n < 32 → bq Y (nI n) → n < N) (hXY : ∀ n, n < 32 → (bq X (nI n) ↔ bq Y (nI n) ∧ ¬ bq (S (100 + c)) (nI n))) : ∃ r, r < 2 ^ N ∧ dj S c r ∧ nc_Call m_X1_bestOf [hO, .inl X] w = some (some (.inl (nI r)), w) ∧ nc_Call m_X12_bestOf [mO, .inl (nI c), .inl Y] v = some (some (.inl (nI r)), v) := by
  have hN : N ≤ 10 := hX.1.1.2.2.2.2.2.2.1
  have p := pow_N hN
  obtain ⟨so, s1, rfl⟩ := toSet hN hY
  obtain ⟨al, a1, rfl⟩ := toSet hN (fun n hn q => hY n hn ((hXY n hn).mp q).1)
  have ha : ∀ s, s < 1024 → (s &&& al = s ↔ s &&& so = s ∧ dj S c s) := by
    intro s hs
    rw [sub_bq hs (by omega), sub_bq hs (by omega)]
    constructor
    · intro q
      exact ⟨fun n hn y => ((hXY n hn).mp (q n hn y)).1, fun n hn y => ((hXY n hn).mp (q n hn y)).2⟩
    · rintro ⟨q1, q2⟩ n hn y
      exact (hXY n hn).mpr ⟨q1 n hn y, q2 n hn y⟩
  have hj : dj S c al := ((ha al (by omega)).mp (Nat.and_self al)).2
  have hle : al ≤ so := sub_le ((ha al (by omega)).mp (Nat.and_self al)).1
  have A := sh_bestOf hX hW a1 hj
  have B := sm_bestOf (w := v) hX hS s1 a1 ha
  have e : it (stB S C N c k al) 1 so 0 = it (fun k' b => stB S C N c k al (pd al k') b) 0 (2 ^ pcb 10 al) 0 := by
    rw [← it_sub (st := stB S C N c k al) (n := so + 1) (show al < 1024 by omega) (fun s hs b => stB_n hs) (by omega) 0]
    show it (stB S C N c k al) 1 so 0 = it (stB S C N c k al) (0 + 1) so (stB S C N c k al 0 0)
    rw [stB_0]
  rw [e] at B
  have sub : it (fun k' b => stB S C N c k al (pd al k') b) 0 (2 ^ pcb 10 al) 0 &&& al = it (fun k' b => stB S C N c k al (pd al k') b) 0 (2 ^ pcb 10 al) 0 := it_inv (st := fun k' b => stB S C N c k al (pd al k') b) (I := fun _ b => b &&& al = b) (n := 2 ^ pcb 10 al) (fun i a _ ha => stB_sub ha) (2 ^ pcb 10 al) 0 0 (by omega) (Nat.zero_and al)
  have l := sub_le sub
  exact ⟨_, by omega, fun n hn q => hj n hn ((sub_bq (by omega) (by omega)).mp sub n hn q), A, B⟩
end BO
